theorem dX11_isThing_0 : decode cX11_isThing 0 = .ok (.iload_n 1, 1) := by decide +kernel
theorem dX11_isThing_1 : decode cX11_isThing 1 = .ok (.ifCond .lt 20, 3) := by decide +kernel
theorem dX11_isThing_4 : decode cX11_isThing 4 = .ok (.iload_n 1, 1) := by decide +kernel
theorem dX11_isThing_5 : decode cX11_isThing 5 = .ok (.aload_n 0, 1) := by decide +kernel
theorem dX11_isThing_6 : decode cX11_isThing 6 = .ok (.getfield 81, 3) := by decide +kernel
theorem dX11_isThing_9 : decode cX11_isThing 9 = .ok (.aload_n 0, 1) := by decide +kernel
theorem dX11_isThing_10 : decode cX11_isThing 10 = .ok (.getfield 51, 3) := by decide +kernel
theorem dX11_isThing_13 : decode cX11_isThing 13 = .ok (.iaload, 1) := by decide +kernel
theorem dX11_isThing_14 : decode cX11_isThing 14 = .ok (.if_icmp .ge 7, 3) := by decide +kernel
theorem dX11_isThing_17 : decode cX11_isThing 17 = .ok (.iconst 1, 1) := by decide +kernel
theorem dX11_isThing_18 : decode cX11_isThing 18 = .ok (.goto 4, 3) := by decide +kernel
theorem dX11_isThing_21 : decode cX11_isThing 21 = .ok (.iconst 0, 1) := by decide +kernel
theorem dX11_isThing_22 : decode cX11_isThing 22 = .ok (.ireturn, 1) := by decide +kernel
set_option maxRecDepth 100000 in
set_option maxHeartbeats 4000000 in
theorem X11_isThing_ct {l0 : Nat} {l1 : Int} {m : Mem} {out : Int} (h : X11_isThing l0 l1 m = some out) : shK l0 = 11 + 10 ∧ CT yX11_isThing cX11_isThing 2 (some .boolean) 1 0 0 [vR l0, vI l1] 312 m (some (vI out)) 312 m := by
  unfold X11_isThing at h
  obtain ⟨hK, h⟩ := ite_some h
  have hlv : 0 < 1 := by decide
  refine ⟨hK, CT.of (by decide +kernel) rfl (Nat.le_of_ble_eq_true rfl) (ls := [some (vR l0), some (vI l1)]) rfl fun g w C _ => ?_⟩
  refine j_iload_n C dX11_isThing_0 rfl ?_
  refine j_if_lt C 21 dX11_isThing_1 rfl h (fun c5 h => ?_) (fun c5 h => ?_)
  · refine j_iconst C dX11_isThing_21 rfl ?_
    exact j_rz C dX11_isThing_22 rfl (retZ_some h) rfl
  · refine j_iload_n C dX11_isThing_4 rfl ?_
    refine j_aload_n C dX11_isThing_5 rfl ?_
    refine j_getR C dX11_isThing_6 CF11 (by decide) fl_X11_81 rfl rfl h (fun t1 h => ?_)
    refine j_aload_n C dX11_isThing_9 rfl ?_
    refine j_getI C dX11_isThing_10 CF11 (by decide) fl_X11_51 rfl rfl h (fun t2 h => ?_)
    refine j_iald C dX11_isThing_13 rfl h (fun t3 h => ?_)
    refine j_icmp_ge C 21 dX11_isThing_14 rfl h (fun c4 h => ?_) (fun c4 h => ?_)
    · refine j_iconst C dX11_isThing_21 rfl ?_
      exact j_rz C dX11_isThing_22 rfl (retZ_some h) rfl
    · refine j_iconst C dX11_isThing_17 rfl ?_
      refine j_goto C 22 dX11_isThing_18 rfl ?_
      exact j_rz C dX11_isThing_22 rfl (retZ_some h) rfl
theorem dX11_dew_0 : decode cX11_dew 0 = .ok (.aload_n 0, 1) := by decide +kernel
theorem dX11_dew_1 : decode cX11_dew 1 = .ok (.iload_n 1, 1) := by decide +kernel
theorem dX11_dew_2 : decode cX11_dew 2 = .ok (.invokevirtual 541, 3) := by decide +kernel
theorem dX11_dew_5 : decode cX11_dew 5 = .ok (.ifCond .eq 22, 3) := by decide +kernel
theorem dX11_dew_8 : decode cX11_dew 8 = .ok (.iload_n 2, 1) := by decide +kernel
theorem dX11_dew_9 : decode cX11_dew 9 = .ok (.iconst 1, 1) := by decide +kernel
theorem dX11_dew_10 : decode cX11_dew 10 = .ok (.bipush 12, 2) := by decide +kernel
theorem dX11_dew_12 : decode cX11_dew 12 = .ok (.invokestatic 334, 3) := by decide +kernel
theorem dX11_dew_15 : decode cX11_dew 15 = .ok (.ifCond .eq 12, 3) := by decide +kernel
theorem dX11_dew_18 : decode cX11_dew 18 = .ok (.iload_n 3, 1) := by decide +kernel
theorem dX11_dew_19 : decode cX11_dew 19 = .ok (.iconst 0, 1) := by decide +kernel
theorem dX11_dew_20 : decode cX11_dew 20 = .ok (.iconst 2, 1) := by decide +kernel
theorem dX11_dew_21 : decode cX11_dew 21 = .ok (.invokestatic 334, 3) := by decide +kernel
theorem dX11_dew_24 : decode cX11_dew 24 = .ok (.ifCond .ne 5, 3) := by decide +kernel
theorem dX11_dew_27 : decode cX11_dew 27 = .ok (.iconst (-1), 1) := by decide +kernel
theorem dX11_dew_28 : decode cX11_dew 28 = .ok (.ireturn, 1) := by decide +kernel
theorem dX11_dew_29 : decode cX11_dew 29 = .ok (.aload_n 0, 1) := by decide +kernel
theorem dX11_dew_30 : decode cX11_dew 30 = .ok (.iconst 0, 1) := by decide +kernel
theorem dX11_dew_31 : decode cX11_dew 31 = .ok (.invokevirtual 544, 3) := by decide +kernel
theorem dX11_dew_34 : decode cX11_dew 34 = .ok (.bipush 10, 2) := by decide +kernel
theorem dX11_dew_36 : decode cX11_dew 36 = .ok (.iload_n 2, 1) := by decide +kernel
theorem dX11_dew_37 : decode cX11_dew 37 = .ok (.imul, 1) := by decide +kernel
theorem dX11_dew_38 : decode cX11_dew 38 = .ok (.iload_n 1, 1) := by decide +kernel
theorem dX11_dew_39 : decode cX11_dew 39 = .ok (.iadd, 1) := by decide +kernel
theorem dX11_dew_40 : decode cX11_dew 40 = .ok (.istore 4, 2) := by decide +kernel
theorem dX11_dew_42 : decode cX11_dew 42 = .ok (.iload_n 3, 1) := by decide +kernel
theorem dX11_dew_43 : decode cX11_dew 43 = .ok (.ifCond .ne 13, 3) := by decide +kernel
theorem dX11_dew_46 : decode cX11_dew 46 = .ok (.aload_n 0, 1) := by decide +kernel
theorem dX11_dew_47 : decode cX11_dew 47 = .ok (.getfield 206, 3) := by decide +kernel
theorem dX11_dew_50 : decode cX11_dew 50 = .ok (.iload 4, 2) := by decide +kernel
theorem dX11_dew_52 : decode cX11_dew 52 = .ok (.iaload, 1) := by decide +kernel
theorem dX11_dew_53 : decode cX11_dew 53 = .ok (.goto 25, 3) := by decide +kernel
theorem dX11_dew_56 : decode cX11_dew 56 = .ok (.iload_n 3, 1) := by decide +kernel
theorem dX11_dew_57 : decode cX11_dew 57 = .ok (.iconst 1, 1) := by decide +kernel
theorem dX11_dew_58 : decode cX11_dew 58 = .ok (.if_icmp .ne 13, 3) := by decide +kernel
theorem dX11_dew_61 : decode cX11_dew 61 = .ok (.aload_n 0, 1) := by decide +kernel
theorem dX11_dew_62 : decode cX11_dew 62 = .ok (.getfield 209, 3) := by decide +kernel
theorem dX11_dew_65 : decode cX11_dew 65 = .ok (.iload 4, 2) := by decide +kernel
theorem dX11_dew_67 : decode cX11_dew 67 = .ok (.iaload, 1) := by decide +kernel
theorem dX11_dew_68 : decode cX11_dew 68 = .ok (.goto 10, 3) := by decide +kernel
theorem dX11_dew_71 : decode cX11_dew 71 = .ok (.aload_n 0, 1) := by decide +kernel
theorem dX11_dew_72 : decode cX11_dew 72 = .ok (.getfield 212, 3) := by decide +kernel
theorem dX11_dew_75 : decode cX11_dew 75 = .ok (.iload 4, 2) := by decide +kernel
theorem dX11_dew_77 : decode cX11_dew 77 = .ok (.iaload, 1) := by decide +kernel
theorem dX11_dew_78 : decode cX11_dew 78 = .ok (.ireturn, 1) := by decide +kernel
set_option maxRecDepth 100000 in
set_option maxHeartbeats 4000000 in
theorem X11_dew_ct {N : Nat} {l0 : Nat} {l1 : Int} {l2 : Int} {l3 : Int} {m : Mem} {out : (Int × Mem)} (h : X11_dew N l0 l1 l2 l3 m = some out) : shK l0 = 11 + 10 ∧ CT yX11_dew cX11_dew 5 (some .int) 9 0 0 [vR l0, vI l1, vI l2, vI l3] 312 m (some (vI out.1)) 312 out.2 := by
  unfold X11_dew at h
  obtain ⟨hK, h⟩ := ite_some h
  have hlv : 8 < 9 := by decide
  refine ⟨hK, CT.of (by decide +kernel) rfl (Nat.le_of_ble_eq_true rfl) (ls := [some (vR l0), some (vI l1), some (vI l2), some (vI l3), none]) rfl fun g w C _ => ?_⟩
  refine j_aload_n C dX11_dew_0 rfl ?_
  refine j_iload_n C dX11_dew_1 rfl ?_
  obtain ⟨p1, ep1, h⟩ := bind_some h
  have qp1 := X11_isThing_ct ep1
  refine j_cVI C dX11_dew_2 vl_X11_541 CF11 rfl qp1.1 qp1.2 (by omega) rfl rfl (Nat.le_of_ble_eq_true rfl) ?_
  refine j_if_eq C 27 dX11_dew_5 rfl h (fun c15 h => ?_) (fun c15 h => ?_)
  · refine j_iconst C dX11_dew_27 rfl ?_
    have e := Option.some.inj h
    subst e
    exact j_ri C dX11_dew_28 rfl rfl rfl
  · refine j_iload_n C dX11_dew_8 rfl ?_
    refine j_iconst C dX11_dew_9 rfl ?_
    refine j_bipush C dX11_dew_10 rfl ?_
    obtain ⟨p2, ep2, h⟩ := bind_some h
    have qp2 := X11_is_ct ep2
    refine j_cSI C dX11_dew_12 sl_X11_334 qp2 (by omega) rfl rfl (Nat.le_of_ble_eq_true rfl) ?_
    refine j_if_eq C 27 dX11_dew_15 rfl h (fun c14 h => ?_) (fun c14 h => ?_)
    · refine j_iconst C dX11_dew_27 rfl ?_
      have e := Option.some.inj h
      subst e
      exact j_ri C dX11_dew_28 rfl rfl rfl
    · refine j_iload_n C dX11_dew_18 rfl ?_
      refine j_iconst C dX11_dew_19 rfl ?_
      refine j_iconst C dX11_dew_20 rfl ?_
      obtain ⟨p3, ep3, h⟩ := bind_some h
      have qp3 := X11_is_ct ep3
      refine j_cSI C dX11_dew_21 sl_X11_334 qp3 (by omega) rfl rfl (Nat.le_of_ble_eq_true rfl) ?_
      refine j_if_ne C 29 dX11_dew_24 rfl h (fun c13 h => ?_) (fun c13 h => ?_)
      · refine j_aload_n C dX11_dew_29 rfl ?_
        refine j_iconst C dX11_dew_30 rfl ?_
        obtain ⟨p4, ep4, h⟩ := bind_some h
        have qp4 := X11_nightAsTold_ct ep4
        refine j_cVV C dX11_dew_31 vl_X11_544 CF11 rfl qp4.1 qp4.2 (by omega) rfl rfl (Nat.le_of_ble_eq_true rfl) ?_
        refine j_bipush C dX11_dew_34 rfl ?_
        refine j_iload_n C dX11_dew_36 rfl ?_
        refine j_imul C dX11_dew_37 ?_
        refine j_iload_n C dX11_dew_38 rfl ?_
        refine j_iadd C dX11_dew_39 ?_
        refine j_istore (ls' := [some (vR _), some (vI _), some (vI _), some (vI _), some (vI _)]) C dX11_dew_40 (by decide) rfl ?_
        refine j_iload_n C dX11_dew_42 rfl ?_
        refine j_if_ne C 56 dX11_dew_43 rfl h (fun c12 h => ?_) (fun c12 h => ?_)
        · refine j_iload_n C dX11_dew_56 rfl ?_
          refine j_iconst C dX11_dew_57 rfl ?_
          refine j_icmp_ne C 71 dX11_dew_58 rfl h (fun c9 h => ?_) (fun c9 h => ?_)
          · refine j_aload_n C dX11_dew_71 rfl ?_
            refine j_getR C dX11_dew_72 CF11 (by decide) fl_X11_212 rfl rfl h (fun t5 h => ?_)
            refine j_iload C dX11_dew_75 rfl ?_
            refine j_iald C dX11_dew_77 rfl h (fun t6 h => ?_)
            have e := Option.some.inj h
            subst e
            exact j_ri C dX11_dew_78 rfl rfl rfl
          · refine j_aload_n C dX11_dew_61 rfl ?_
            refine j_getR C dX11_dew_62 CF11 (by decide) fl_X11_209 rfl rfl h (fun t7 h => ?_)
            refine j_iload C dX11_dew_65 rfl ?_
            refine j_iald C dX11_dew_67 rfl h (fun t8 h => ?_)
            refine j_goto C 78 dX11_dew_68 rfl ?_
            have e := Option.some.inj h
            subst e
            exact j_ri C dX11_dew_78 rfl rfl rfl
        · refine j_aload_n C dX11_dew_46 rfl ?_
          refine j_getR C dX11_dew_47 CF11 (by decide) fl_X11_206 rfl rfl h (fun t10 h => ?_)
          refine j_iload C dX11_dew_50 rfl ?_
          refine j_iald C dX11_dew_52 rfl h (fun t11 h => ?_)
          refine j_goto C 78 dX11_dew_53 rfl ?_
          have e := Option.some.inj h
          subst e
          exact j_ri C dX11_dew_78 rfl rfl rfl
      · refine j_iconst C dX11_dew_27 rfl ?_
        have e := Option.some.inj h
        subst e
        exact j_ri C dX11_dew_28 rfl rfl rfl
theorem dX11_pushes_0 : decode cX11_pushes 0 = .ok (.aload_n 0, 1) := by decide +kernel
theorem dX11_pushes_1 : decode cX11_pushes 1 = .ok (.getfield 136, 3) := by decide +kernel
theorem dX11_pushes_4 : decode cX11_pushes 4 = .ok (.aload_n 0, 1) := by decide +kernel
theorem dX11_pushes_5 : decode cX11_pushes 5 = .ok (.getfield 145, 3) := by decide +kernel
theorem dX11_pushes_8 : decode cX11_pushes 8 = .ok (.iload_n 1, 1) := by decide +kernel
theorem dX11_pushes_9 : decode cX11_pushes 9 = .ok (.iastore, 1) := by decide +kernel
theorem dX11_pushes_10 : decode cX11_pushes 10 = .ok (.aload_n 0, 1) := by decide +kernel
theorem dX11_pushes_11 : decode cX11_pushes 11 = .ok (.getfield 142, 3) := by decide +kernel
theorem dX11_pushes_14 : decode cX11_pushes 14 = .ok (.aload_n 0, 1) := by decide +kernel
theorem dX11_pushes_15 : decode cX11_pushes 15 = .ok (.getfield 145, 3) := by decide +kernel
theorem dX11_pushes_18 : decode cX11_pushes 18 = .ok (.aload_n 0, 1) := by decide +kernel
theorem dX11_pushes_19 : decode cX11_pushes 19 = .ok (.getfield 154, 3) := by decide +kernel
theorem dX11_pushes_22 : decode cX11_pushes 22 = .ok (.iastore, 1) := by decide +kernel
theorem dX11_pushes_23 : decode cX11_pushes 23 = .ok (.aload_n 0, 1) := by decide +kernel
theorem dX11_pushes_24 : decode cX11_pushes 24 = .ok (.dup, 1) := by decide +kernel
theorem dX11_pushes_25 : decode cX11_pushes 25 = .ok (.getfield 145, 3) := by decide +kernel
theorem dX11_pushes_28 : decode cX11_pushes 28 = .ok (.iconst 1, 1) := by decide +kernel
theorem dX11_pushes_29 : decode cX11_pushes 29 = .ok (.iadd, 1) := by decide +kernel
theorem dX11_pushes_30 : decode cX11_pushes 30 = .ok (.putfield 145, 3) := by decide +kernel
theorem dX11_pushes_33 : decode cX11_pushes 33 = .ok (.return_, 1) := by decide +kernel
set_option maxRecDepth 100000 in
set_option maxHeartbeats 4000000 in
theorem X11_pushes_ct {l0 : Nat} {l1 : Int} {m : Mem} {out : Mem} (h : X11_pushes l0 l1 m = some out) : shK l0 = 11 + 10 ∧ CT yX11_pushes cX11_pushes 2 none 1 0 0 [vR l0, vI l1] 312 m none 312 out := by
  unfold X11_pushes at h
  obtain ⟨hK, h⟩ := ite_some h
  have hlv : 0 < 1 := by decide
  refine ⟨hK, CT.of (by decide +kernel) rfl (Nat.le_of_ble_eq_true rfl) (ls := [some (vR l0), some (vI l1)]) rfl fun g w C _ => ?_⟩
  refine j_aload_n C dX11_pushes_0 rfl ?_
  refine j_getR C dX11_pushes_1 CF11 (by decide) fl_X11_136 rfl rfl h (fun t1 h => ?_)
  refine j_aload_n C dX11_pushes_4 rfl ?_
  refine j_getI C dX11_pushes_5 CF11 (by decide) fl_X11_145 rfl rfl h (fun t2 h => ?_)
  refine j_iload_n C dX11_pushes_8 rfl ?_
  refine j_iast C dX11_pushes_9 rfl h (fun m3 h => ?_)
  refine j_aload_n C dX11_pushes_10 rfl ?_
  refine j_getR C dX11_pushes_11 CF11 (by decide) fl_X11_142 rfl rfl h (fun t4 h => ?_)
  refine j_aload_n C dX11_pushes_14 rfl ?_
  refine j_getI C dX11_pushes_15 CF11 (by decide) fl_X11_145 rfl rfl h (fun t5 h => ?_)
  refine j_aload_n C dX11_pushes_18 rfl ?_
  refine j_getI C dX11_pushes_19 CF11 (by decide) fl_X11_154 rfl rfl h (fun t6 h => ?_)
  refine j_iast C dX11_pushes_22 rfl h (fun m7 h => ?_)
  refine j_aload_n C dX11_pushes_23 rfl ?_
  refine j_dup C dX11_pushes_24 rfl ?_
  refine j_getI C dX11_pushes_25 CF11 (by decide) fl_X11_145 rfl rfl h (fun t8 h => ?_)
  refine j_iconst C dX11_pushes_28 rfl ?_
  refine j_iadd C dX11_pushes_29 ?_
  refine j_putI C dX11_pushes_30 CF11 (by decide) fl_X11_145 rfl rfl rfl rfl h (fun m9 h => ?_)
  have e := Option.some.inj h
  subst e
  exact j_rv C dX11_pushes_33 rfl rfl
theorem dX11_isSign_0 : decode cX11_isSign 0 = .ok (.aload_n 0, 1) := by decide +kernel
theorem dX11_isSign_1 : decode cX11_isSign 1 = .ok (.getfield 20, 3) := by decide +kernel
theorem dX11_isSign_4 : decode cX11_isSign 4 = .ok (.iconst 3, 1) := by decide +kernel
theorem dX11_isSign_5 : decode cX11_isSign 5 = .ok (.if_icmp .ne 15, 3) := by decide +kernel
theorem dX11_isSign_8 : decode cX11_isSign 8 = .ok (.aload_n 0, 1) := by decide +kernel
theorem dX11_isSign_9 : decode cX11_isSign 9 = .ok (.getfield 29, 3) := by decide +kernel
theorem dX11_isSign_12 : decode cX11_isSign 12 = .ok (.iload_n 1, 1) := by decide +kernel
theorem dX11_isSign_13 : decode cX11_isSign 13 = .ok (.if_icmp .ne 7, 3) := by decide +kernel
theorem dX11_isSign_16 : decode cX11_isSign 16 = .ok (.iconst 1, 1) := by decide +kernel
theorem dX11_isSign_17 : decode cX11_isSign 17 = .ok (.goto 4, 3) := by decide +kernel
theorem dX11_isSign_20 : decode cX11_isSign 20 = .ok (.iconst 0, 1) := by decide +kernel
theorem dX11_isSign_21 : decode cX11_isSign 21 = .ok (.ireturn, 1) := by decide +kernel
set_option maxRecDepth 100000 in
set_option maxHeartbeats 4000000 in
theorem X11_isSign_ct {l0 : Nat} {l1 : Int} {m : Mem} {out : Int} (h : X11_isSign l0 l1 m = some out) : shK l0 = 11 + 10 ∧ CT yX11_isSign cX11_isSign 2 (some .boolean) 1 0 0 [vR l0, vI l1] 312 m (some (vI out)) 312 m := by
  unfold X11_isSign at h
  obtain ⟨hK, h⟩ := ite_some h
  have hlv : 0 < 1 := by decide
  refine ⟨hK, CT.of (by decide +kernel) rfl (Nat.le_of_ble_eq_true rfl) (ls := [some (vR l0), some (vI l1)]) rfl fun g w C _ => ?_⟩
  refine j_aload_n C dX11_isSign_0 rfl ?_
  refine j_getI C dX11_isSign_1 CF11 (by decide) fl_X11_20 rfl rfl h (fun t1 h => ?_)
  refine j_iconst C dX11_isSign_4 rfl ?_
  refine j_icmp_ne C 20 dX11_isSign_5 rfl h (fun c4 h => ?_) (fun c4 h => ?_)
  · refine j_iconst C dX11_isSign_20 rfl ?_
    exact j_rz C dX11_isSign_21 rfl (retZ_some h) rfl
  · refine j_aload_n C dX11_isSign_8 rfl ?_
    refine j_getI C dX11_isSign_9 CF11 (by decide) fl_X11_29 rfl rfl h (fun t2 h => ?_)
    refine j_iload_n C dX11_isSign_12 rfl ?_
    refine j_icmp_ne C 20 dX11_isSign_13 rfl h (fun c3 h => ?_) (fun c3 h => ?_)
    · refine j_iconst C dX11_isSign_20 rfl ?_
      exact j_rz C dX11_isSign_21 rfl (retZ_some h) rfl
    · refine j_iconst C dX11_isSign_16 rfl ?_
      refine j_goto C 21 dX11_isSign_17 rfl ?_
      exact j_rz C dX11_isSign_21 rfl (retZ_some h) rfl
theorem dX11_opens_0 : decode cX11_opens 0 = .ok (.aload_n 0, 1) := by decide +kernel
theorem dX11_opens_1 : decode cX11_opens 1 = .ok (.getfield 148, 3) := by decide +kernel
theorem dX11_opens_4 : decode cX11_opens 4 = .ok (.bipush 7, 2) := by decide +kernel
theorem dX11_opens_6 : decode cX11_opens 6 = .ok (.if_icmp .ne 12, 3) := by decide +kernel
theorem dX11_opens_9 : decode cX11_opens 9 = .ok (.aload_n 0, 1) := by decide +kernel
theorem dX11_opens_10 : decode cX11_opens 10 = .ok (.iconst 5, 1) := by decide +kernel
theorem dX11_opens_11 : decode cX11_opens 11 = .ok (.aload_n 0, 1) := by decide +kernel
theorem dX11_opens_12 : decode cX11_opens 12 = .ok (.getfield 23, 3) := by decide +kernel
theorem dX11_opens_15 : decode cX11_opens 15 = .ok (.invokevirtual 256, 3) := by decide +kernel
theorem dX11_opens_18 : decode cX11_opens 18 = .ok (.aload_n 0, 1) := by decide +kernel
theorem dX11_opens_19 : decode cX11_opens 19 = .ok (.getfield 36, 3) := by decide +kernel
theorem dX11_opens_22 : decode cX11_opens 22 = .ok (.ifCond .le 4, 3) := by decide +kernel
theorem dX11_opens_25 : decode cX11_opens 25 = .ok (.return_, 1) := by decide +kernel
theorem dX11_opens_26 : decode cX11_opens 26 = .ok (.aload_n 0, 1) := by decide +kernel
theorem dX11_opens_27 : decode cX11_opens 27 = .ok (.dup, 1) := by decide +kernel
theorem dX11_opens_28 : decode cX11_opens 28 = .ok (.getfield 148, 3) := by decide +kernel
theorem dX11_opens_31 : decode cX11_opens 31 = .ok (.iconst 1, 1) := by decide +kernel
theorem dX11_opens_32 : decode cX11_opens 32 = .ok (.iadd, 1) := by decide +kernel
theorem dX11_opens_33 : decode cX11_opens 33 = .ok (.putfield 148, 3) := by decide +kernel
theorem dX11_opens_36 : decode cX11_opens 36 = .ok (.aload_n 0, 1) := by decide +kernel
theorem dX11_opens_37 : decode cX11_opens 37 = .ok (.invokevirtual 277, 3) := by decide +kernel
theorem dX11_opens_40 : decode cX11_opens 40 = .ok (.aload_n 0, 1) := by decide +kernel
theorem dX11_opens_41 : decode cX11_opens 41 = .ok (.iload_n 1, 1) := by decide +kernel
theorem dX11_opens_42 : decode cX11_opens 42 = .ok (.invokevirtual 348, 3) := by decide +kernel
theorem dX11_opens_45 : decode cX11_opens 45 = .ok (.return_, 1) := by decide +kernel
set_option maxRecDepth 100000 in
set_option maxHeartbeats 4000000 in
theorem X11_opens_J18_ok {g : Gm} {w : Wd} (C : Cx g w RX11 cX11_opens 2 none) {lv : Nat} (hlv : 2 < lv) {N : Nat} {l0 : Nat} {l1 : Int} {m : Mem} {out : Mem} (h : X11_opens_J18 N l0 l1 m = some out) : Jd g w 2 (rmL lv 0 0) (Qm g w none out) 18 [some (vR l0), some (vI l1)] [] 312 m 0 0 := by
  unfold X11_opens_J18 at h
  refine j_aload_n C dX11_opens_18 rfl ?_
  refine j_getI C dX11_opens_19 CF11 (by decide) fl_X11_36 rfl rfl h (fun t2 h => ?_)
  refine j_if_le C 26 dX11_opens_22 rfl h (fun c7 h => ?_) (fun c7 h => ?_)
  · refine j_aload_n C dX11_opens_26 rfl ?_
    refine j_dup C dX11_opens_27 rfl ?_
    refine j_getI C dX11_opens_28 CF11 (by decide) fl_X11_148 rfl rfl h (fun t3 h => ?_)
    refine j_iconst C dX11_opens_31 rfl ?_
    refine j_iadd C dX11_opens_32 ?_
    refine j_putI C dX11_opens_33 CF11 (by decide) fl_X11_148 rfl rfl rfl rfl h (fun m4 h => ?_)
    refine j_aload_n C dX11_opens_36 rfl ?_
    obtain ⟨p5, ep5, h⟩ := bind_some h
    have qp5 := X11_ahead_ct ep5
    refine j_cVV C dX11_opens_37 vl_X11_277 CF11 rfl qp5.1 qp5.2 (by omega) rfl rfl (Nat.le_of_ble_eq_true rfl) ?_
    refine j_aload_n C dX11_opens_40 rfl ?_
    refine j_iload_n C dX11_opens_41 rfl ?_
    obtain ⟨p6, ep6, h⟩ := bind_some h
    have qp6 := X11_pushes_ct ep6
    refine j_cVV C dX11_opens_42 vl_X11_348 CF11 rfl qp6.1 qp6.2 (by omega) rfl rfl (Nat.le_of_ble_eq_true rfl) ?_
    have e := Option.some.inj h
    subst e
    exact j_rv C dX11_opens_45 rfl rfl
  · have e := Option.some.inj h
    subst e
    exact j_rv C dX11_opens_25 rfl rfl
set_option maxRecDepth 100000 in
set_option maxHeartbeats 4000000 in
theorem X11_opens_ct {N : Nat} {l0 : Nat} {l1 : Int} {m : Mem} {out : Mem} (h : X11_opens N l0 l1 m = some out) : shK l0 = 11 + 10 ∧ CT yX11_opens cX11_opens 2 none 3 0 0 [vR l0, vI l1] 312 m none 312 out := by
  unfold X11_opens at h
  obtain ⟨hK, h⟩ := ite_some h
  have hlv : 2 < 3 := by decide
  refine ⟨hK, CT.of (by decide +kernel) rfl (Nat.le_of_ble_eq_true rfl) (ls := [some (vR l0), some (vI l1)]) rfl fun g w C _ => ?_⟩
  refine j_aload_n C dX11_opens_0 rfl ?_
  refine j_getI C dX11_opens_1 CF11 (by decide) fl_X11_148 rfl rfl h (fun t1 h => ?_)
  refine j_bipush C dX11_opens_4 rfl ?_
  refine j_icmp_ne C 18 dX11_opens_6 rfl h (fun c10 h => ?_) (fun c10 h => ?_)
  · exact X11_opens_J18_ok C hlv h
  · refine j_aload_n C dX11_opens_9 rfl ?_
    refine j_iconst C dX11_opens_10 rfl ?_
    refine j_aload_n C dX11_opens_11 rfl ?_
    refine j_getI C dX11_opens_12 CF11 (by decide) fl_X11_23 rfl rfl h (fun t8 h => ?_)
    obtain ⟨p9, ep9, h⟩ := bind_some h
    have qp9 := X11_blame_ct ep9
    refine j_cVV C dX11_opens_15 vl_X11_256 CF11 rfl qp9.1 qp9.2 (by omega) rfl rfl (Nat.le_of_ble_eq_true rfl) ?_
    exact X11_opens_J18_ok C hlv h
theorem dX11_operand_0 : decode cX11_operand 0 = .ok (.aload_n 0, 1) := by decide +kernel
theorem dX11_operand_1 : decode cX11_operand 1 = .ok (.invokevirtual 271, 3) := by decide +kernel
theorem dX11_operand_4 : decode cX11_operand 4 = .ok (.aload_n 0, 1) := by decide +kernel
theorem dX11_operand_5 : decode cX11_operand 5 = .ok (.getfield 36, 3) := by decide +kernel
theorem dX11_operand_8 : decode cX11_operand 8 = .ok (.ifCond .le 5, 3) := by decide +kernel
theorem dX11_operand_11 : decode cX11_operand 11 = .ok (.iconst 1, 1) := by decide +kernel
theorem dX11_operand_12 : decode cX11_operand 12 = .ok (.ireturn, 1) := by decide +kernel
theorem dX11_operand_13 : decode cX11_operand 13 = .ok (.aload_n 0, 1) := by decide +kernel
theorem dX11_operand_14 : decode cX11_operand 14 = .ok (.bipush 40, 2) := by decide +kernel
theorem dX11_operand_16 : decode cX11_operand 16 = .ok (.invokevirtual 274, 3) := by decide +kernel
theorem dX11_operand_19 : decode cX11_operand 19 = .ok (.ifCond .eq 10, 3) := by decide +kernel
theorem dX11_operand_22 : decode cX11_operand 22 = .ok (.aload_n 0, 1) := by decide +kernel
theorem dX11_operand_23 : decode cX11_operand 23 = .ok (.iconst 2, 1) := by decide +kernel
theorem dX11_operand_24 : decode cX11_operand 24 = .ok (.invokevirtual 351, 3) := by decide +kernel
theorem dX11_operand_27 : decode cX11_operand 27 = .ok (.iconst 0, 1) := by decide +kernel
theorem dX11_operand_28 : decode cX11_operand 28 = .ok (.ireturn, 1) := by decide +kernel
theorem dX11_operand_29 : decode cX11_operand 29 = .ok (.aload_n 0, 1) := by decide +kernel
theorem dX11_operand_30 : decode cX11_operand 30 = .ok (.ldc2_w 330, 3) := by decide +kernel
theorem dX11_operand_33 : decode cX11_operand 33 = .ok (.invokevirtual 354, 3) := by decide +kernel
theorem dX11_operand_36 : decode cX11_operand 36 = .ok (.ifCond .ne 13, 3) := by decide +kernel
theorem dX11_operand_39 : decode cX11_operand 39 = .ok (.aload_n 0, 1) := by decide +kernel
theorem dX11_operand_40 : decode cX11_operand 40 = .ok (.ldc2_w 332, 3) := by decide +kernel
theorem dX11_operand_43 : decode cX11_operand 43 = .ok (.invokevirtual 354, 3) := by decide +kernel
theorem dX11_operand_46 : decode cX11_operand 46 = .ok (.ifCond .eq 73, 3) := by decide +kernel
theorem dX11_operand_49 : decode cX11_operand 49 = .ok (.aload_n 0, 1) := by decide +kernel
theorem dX11_operand_50 : decode cX11_operand 50 = .ok (.ldc2_w 330, 3) := by decide +kernel
theorem dX11_operand_53 : decode cX11_operand 53 = .ok (.invokevirtual 354, 3) := by decide +kernel
theorem dX11_operand_56 : decode cX11_operand 56 = .ok (.ifCond .eq 8, 3) := by decide +kernel
theorem dX11_operand_59 : decode cX11_operand 59 = .ok (.bipush 15, 2) := by decide +kernel
theorem dX11_operand_61 : decode cX11_operand 61 = .ok (.goto 5, 3) := by decide +kernel
theorem dX11_operand_64 : decode cX11_operand 64 = .ok (.bipush 16, 2) := by decide +kernel
theorem dX11_operand_66 : decode cX11_operand 66 = .ok (.istore_n 1, 1) := by decide +kernel
theorem dX11_operand_67 : decode cX11_operand 67 = .ok (.aload_n 0, 1) := by decide +kernel
theorem dX11_operand_68 : decode cX11_operand 68 = .ok (.invokevirtual 277, 3) := by decide +kernel
theorem dX11_operand_71 : decode cX11_operand 71 = .ok (.aload_n 0, 1) := by decide +kernel
theorem dX11_operand_72 : decode cX11_operand 72 = .ok (.invokevirtual 271, 3) := by decide +kernel
theorem dX11_operand_75 : decode cX11_operand 75 = .ok (.aload_n 0, 1) := by decide +kernel
theorem dX11_operand_76 : decode cX11_operand 76 = .ok (.bipush 40, 2) := by decide +kernel
theorem dX11_operand_78 : decode cX11_operand 78 = .ok (.invokevirtual 274, 3) := by decide +kernel
theorem dX11_operand_81 : decode cX11_operand 81 = .ok (.ifCond .ne 12, 3) := by decide +kernel
theorem dX11_operand_84 : decode cX11_operand 84 = .ok (.aload_n 0, 1) := by decide +kernel
theorem dX11_operand_85 : decode cX11_operand 85 = .ok (.iconst 1, 1) := by decide +kernel
theorem dX11_operand_86 : decode cX11_operand 86 = .ok (.aload_n 0, 1) := by decide +kernel
theorem dX11_operand_87 : decode cX11_operand 87 = .ok (.getfield 23, 3) := by decide +kernel
theorem dX11_operand_90 : decode cX11_operand 90 = .ok (.invokevirtual 256, 3) := by decide +kernel
theorem dX11_operand_93 : decode cX11_operand 93 = .ok (.aload_n 0, 1) := by decide +kernel
theorem dX11_operand_94 : decode cX11_operand 94 = .ok (.iconst 3, 1) := by decide +kernel
theorem dX11_operand_95 : decode cX11_operand 95 = .ok (.invokevirtual 351, 3) := by decide +kernel
theorem dX11_operand_98 : decode cX11_operand 98 = .ok (.aload_n 0, 1) := by decide +kernel
theorem dX11_operand_99 : decode cX11_operand 99 = .ok (.getfield 36, 3) := by decide +kernel
theorem dX11_operand_102 : decode cX11_operand 102 = .ok (.ifCond .ne 15, 3) := by decide +kernel
theorem dX11_operand_105 : decode cX11_operand 105 = .ok (.aload_n 0, 1) := by decide +kernel
theorem dX11_operand_106 : decode cX11_operand 106 = .ok (.getfield 139, 3) := by decide +kernel
theorem dX11_operand_109 : decode cX11_operand 109 = .ok (.aload_n 0, 1) := by decide +kernel
theorem dX11_operand_110 : decode cX11_operand 110 = .ok (.getfield 145, 3) := by decide +kernel
theorem dX11_operand_113 : decode cX11_operand 113 = .ok (.iconst 1, 1) := by decide +kernel
theorem dX11_operand_114 : decode cX11_operand 114 = .ok (.isub, 1) := by decide +kernel
theorem dX11_operand_115 : decode cX11_operand 115 = .ok (.iload_n 1, 1) := by decide +kernel
theorem dX11_operand_116 : decode cX11_operand 116 = .ok (.iastore, 1) := by decide +kernel
theorem dX11_operand_117 : decode cX11_operand 117 = .ok (.iconst 0, 1) := by decide +kernel
theorem dX11_operand_118 : decode cX11_operand 118 = .ok (.ireturn, 1) := by decide +kernel
theorem dX11_operand_119 : decode cX11_operand 119 = .ok (.aload_n 0, 1) := by decide +kernel
theorem dX11_operand_120 : decode cX11_operand 120 = .ok (.getfield 20, 3) := by decide +kernel
theorem dX11_operand_123 : decode cX11_operand 123 = .ok (.iconst 2, 1) := by decide +kernel
theorem dX11_operand_124 : decode cX11_operand 124 = .ok (.if_icmp .ne 7, 3) := by decide +kernel
theorem dX11_operand_127 : decode cX11_operand 127 = .ok (.iconst 0, 1) := by decide +kernel
theorem dX11_operand_128 : decode cX11_operand 128 = .ok (.goto 149, 3) := by decide +kernel
theorem dX11_operand_131 : decode cX11_operand 131 = .ok (.aload_n 0, 1) := by decide +kernel
theorem dX11_operand_132 : decode cX11_operand 132 = .ok (.ldc2_w 294, 3) := by decide +kernel
theorem dX11_operand_135 : decode cX11_operand 135 = .ok (.invokevirtual 354, 3) := by decide +kernel
theorem dX11_operand_138 : decode cX11_operand 138 = .ok (.ifCond .eq 7, 3) := by decide +kernel
theorem dX11_operand_141 : decode cX11_operand 141 = .ok (.iconst 1, 1) := by decide +kernel
theorem dX11_operand_142 : decode cX11_operand 142 = .ok (.goto 135, 3) := by decide +kernel
theorem dX11_operand_145 : decode cX11_operand 145 = .ok (.aload_n 0, 1) := by decide +kernel
theorem dX11_operand_146 : decode cX11_operand 146 = .ok (.ldc2_w 312, 3) := by decide +kernel
theorem dX11_operand_149 : decode cX11_operand 149 = .ok (.invokevirtual 354, 3) := by decide +kernel
theorem dX11_operand_152 : decode cX11_operand 152 = .ok (.ifCond .eq 7, 3) := by decide +kernel
theorem dX11_operand_155 : decode cX11_operand 155 = .ok (.iconst 2, 1) := by decide +kernel
theorem dX11_operand_156 : decode cX11_operand 156 = .ok (.goto 121, 3) := by decide +kernel
theorem dX11_operand_159 : decode cX11_operand 159 = .ok (.aload_n 0, 1) := by decide +kernel
theorem dX11_operand_160 : decode cX11_operand 160 = .ok (.ldc2_w 314, 3) := by decide +kernel
theorem dX11_operand_163 : decode cX11_operand 163 = .ok (.invokevirtual 354, 3) := by decide +kernel
theorem dX11_operand_166 : decode cX11_operand 166 = .ok (.ifCond .eq 7, 3) := by decide +kernel
theorem dX11_operand_169 : decode cX11_operand 169 = .ok (.iconst 3, 1) := by decide +kernel
theorem dX11_operand_170 : decode cX11_operand 170 = .ok (.goto 107, 3) := by decide +kernel
theorem dX11_operand_173 : decode cX11_operand 173 = .ok (.aload_n 0, 1) := by decide +kernel
theorem dX11_operand_174 : decode cX11_operand 174 = .ok (.ldc2_w 316, 3) := by decide +kernel
theorem dX11_operand_177 : decode cX11_operand 177 = .ok (.invokevirtual 354, 3) := by decide +kernel
theorem dX11_operand_180 : decode cX11_operand 180 = .ok (.ifCond .eq 7, 3) := by decide +kernel
theorem dX11_operand_183 : decode cX11_operand 183 = .ok (.iconst 4, 1) := by decide +kernel
theorem dX11_operand_184 : decode cX11_operand 184 = .ok (.goto 93, 3) := by decide +kernel
theorem dX11_operand_187 : decode cX11_operand 187 = .ok (.aload_n 0, 1) := by decide +kernel
theorem dX11_operand_188 : decode cX11_operand 188 = .ok (.ldc2_w 318, 3) := by decide +kernel
theorem dX11_operand_191 : decode cX11_operand 191 = .ok (.invokevirtual 354, 3) := by decide +kernel
theorem dX11_operand_194 : decode cX11_operand 194 = .ok (.ifCond .eq 7, 3) := by decide +kernel
theorem dX11_operand_197 : decode cX11_operand 197 = .ok (.iconst 5, 1) := by decide +kernel
theorem dX11_operand_198 : decode cX11_operand 198 = .ok (.goto 79, 3) := by decide +kernel
theorem dX11_operand_201 : decode cX11_operand 201 = .ok (.aload_n 0, 1) := by decide +kernel
theorem dX11_operand_202 : decode cX11_operand 202 = .ok (.ldc2_w 320, 3) := by decide +kernel
theorem dX11_operand_205 : decode cX11_operand 205 = .ok (.invokevirtual 354, 3) := by decide +kernel
theorem dX11_operand_208 : decode cX11_operand 208 = .ok (.ifCond .eq 8, 3) := by decide +kernel
theorem dX11_operand_211 : decode cX11_operand 211 = .ok (.bipush 6, 2) := by decide +kernel
theorem dX11_operand_213 : decode cX11_operand 213 = .ok (.goto 64, 3) := by decide +kernel
theorem dX11_operand_216 : decode cX11_operand 216 = .ok (.aload_n 0, 1) := by decide +kernel
theorem dX11_operand_217 : decode cX11_operand 217 = .ok (.ldc2_w 322, 3) := by decide +kernel
theorem dX11_operand_220 : decode cX11_operand 220 = .ok (.invokevirtual 354, 3) := by decide +kernel
theorem dX11_operand_223 : decode cX11_operand 223 = .ok (.ifCond .eq 8, 3) := by decide +kernel
theorem dX11_operand_226 : decode cX11_operand 226 = .ok (.bipush 7, 2) := by decide +kernel
theorem dX11_operand_228 : decode cX11_operand 228 = .ok (.goto 49, 3) := by decide +kernel
theorem dX11_operand_231 : decode cX11_operand 231 = .ok (.aload_n 0, 1) := by decide +kernel
theorem dX11_operand_232 : decode cX11_operand 232 = .ok (.ldc2_w 324, 3) := by decide +kernel
theorem dX11_operand_235 : decode cX11_operand 235 = .ok (.invokevirtual 354, 3) := by decide +kernel
theorem dX11_operand_238 : decode cX11_operand 238 = .ok (.ifCond .eq 8, 3) := by decide +kernel
theorem dX11_operand_241 : decode cX11_operand 241 = .ok (.bipush 8, 2) := by decide +kernel
theorem dX11_operand_243 : decode cX11_operand 243 = .ok (.goto 34, 3) := by decide +kernel
theorem dX11_operand_246 : decode cX11_operand 246 = .ok (.aload_n 0, 1) := by decide +kernel
theorem dX11_operand_247 : decode cX11_operand 247 = .ok (.ldc2_w 326, 3) := by decide +kernel
theorem dX11_operand_250 : decode cX11_operand 250 = .ok (.invokevirtual 354, 3) := by decide +kernel
theorem dX11_operand_253 : decode cX11_operand 253 = .ok (.ifCond .eq 8, 3) := by decide +kernel
theorem dX11_operand_256 : decode cX11_operand 256 = .ok (.bipush 9, 2) := by decide +kernel
theorem dX11_operand_258 : decode cX11_operand 258 = .ok (.goto 19, 3) := by decide +kernel
theorem dX11_operand_261 : decode cX11_operand 261 = .ok (.aload_n 0, 1) := by decide +kernel
theorem dX11_operand_262 : decode cX11_operand 262 = .ok (.ldc2_w 328, 3) := by decide +kernel
theorem dX11_operand_265 : decode cX11_operand 265 = .ok (.invokevirtual 354, 3) := by decide +kernel
theorem dX11_operand_268 : decode cX11_operand 268 = .ok (.ifCond .eq 8, 3) := by decide +kernel
theorem dX11_operand_271 : decode cX11_operand 271 = .ok (.bipush 30, 2) := by decide +kernel
theorem dX11_operand_273 : decode cX11_operand 273 = .ok (.goto 4, 3) := by decide +kernel
theorem dX11_operand_276 : decode cX11_operand 276 = .ok (.iconst (-1), 1) := by decide +kernel
theorem dX11_operand_277 : decode cX11_operand 277 = .ok (.istore_n 1, 1) := by decide +kernel
theorem dX11_operand_278 : decode cX11_operand 278 = .ok (.iload_n 1, 1) := by decide +kernel
theorem dX11_operand_279 : decode cX11_operand 279 = .ok (.iconst (-1), 1) := by decide +kernel
theorem dX11_operand_280 : decode cX11_operand 280 = .ok (.if_icmp .ne 12, 3) := by decide +kernel
theorem dX11_operand_283 : decode cX11_operand 283 = .ok (.aload_n 0, 1) := by decide +kernel
theorem dX11_operand_284 : decode cX11_operand 284 = .ok (.iconst 1, 1) := by decide +kernel
theorem dX11_operand_285 : decode cX11_operand 285 = .ok (.aload_n 0, 1) := by decide +kernel
theorem dX11_operand_286 : decode cX11_operand 286 = .ok (.getfield 23, 3) := by decide +kernel
theorem dX11_operand_289 : decode cX11_operand 289 = .ok (.invokevirtual 256, 3) := by decide +kernel
theorem dX11_operand_292 : decode cX11_operand 292 = .ok (.aload_n 0, 1) := by decide +kernel
theorem dX11_operand_293 : decode cX11_operand 293 = .ok (.getfield 36, 3) := by decide +kernel
theorem dX11_operand_296 : decode cX11_operand 296 = .ok (.ifCond .le 5, 3) := by decide +kernel
theorem dX11_operand_299 : decode cX11_operand 299 = .ok (.iconst 1, 1) := by decide +kernel
theorem dX11_operand_300 : decode cX11_operand 300 = .ok (.ireturn, 1) := by decide +kernel
theorem dX11_operand_301 : decode cX11_operand 301 = .ok (.aload_n 0, 1) := by decide +kernel
theorem dX11_operand_302 : decode cX11_operand 302 = .ok (.iload_n 1, 1) := by decide +kernel
theorem dX11_operand_303 : decode cX11_operand 303 = .ok (.aload_n 0, 1) := by decide +kernel
theorem dX11_operand_304 : decode cX11_operand 304 = .ok (.getfield 29, 3) := by decide +kernel
theorem dX11_operand_307 : decode cX11_operand 307 = .ok (.invokevirtual 345, 3) := by decide +kernel
theorem dX11_operand_310 : decode cX11_operand 310 = .ok (.aload_n 0, 1) := by decide +kernel
theorem dX11_operand_311 : decode cX11_operand 311 = .ok (.invokevirtual 277, 3) := by decide +kernel
theorem dX11_operand_314 : decode cX11_operand 314 = .ok (.iconst 1, 1) := by decide +kernel
theorem dX11_operand_315 : decode cX11_operand 315 = .ok (.ireturn, 1) := by decide +kernel
set_option maxRecDepth 100000 in
set_option maxHeartbeats 4000000 in
theorem X11_operand_J93_ok {g : Gm} {w : Wd} (C : Cx g w RX11 cX11_operand 2 (some .boolean)) {lv : Nat} (hlv : 3 < lv) {N : Nat} {l0 : Nat} {l1 : Int} {m : Mem} {out : (Int × Mem)} (h : X11_operand_J93 N l0 l1 m = some out) : Jd g w 2 (rmL lv 0 0) (Qm g w (some (vI out.1)) out.2) 93 [some (vR l0), some (vI l1)] [] 312 m 0 0 := by
  unfold X11_operand_J93 at h
  refine j_aload_n C dX11_operand_93 rfl ?_
  refine j_iconst C dX11_operand_94 rfl ?_
  obtain ⟨p9, ep9, h⟩ := bind_some h
  have qp9 := X11_opens_ct ep9
  refine j_cVV C dX11_operand_95 vl_X11_351 CF11 rfl qp9.1 qp9.2 (by omega) rfl rfl (Nat.le_of_ble_eq_true rfl) ?_
  refine j_aload_n C dX11_operand_98 rfl ?_
  refine j_getI C dX11_operand_99 CF11 (by decide) fl_X11_36 rfl rfl h (fun t10 h => ?_)
  refine j_if_ne C 117 dX11_operand_102 rfl h (fun c16 h => ?_) (fun c16 h => ?_)
  · refine j_iconst C dX11_operand_117 rfl ?_
    obtain ⟨r11, er11, h⟩ := bind_some h
    have e := Option.some.inj h
    subst e
    exact j_rz C dX11_operand_118 rfl (retZ_some er11) rfl
  · refine j_aload_n C dX11_operand_105 rfl ?_
    refine j_getR C dX11_operand_106 CF11 (by decide) fl_X11_139 rfl rfl h (fun t12 h => ?_)
    refine j_aload_n C dX11_operand_109 rfl ?_
    refine j_getI C dX11_operand_110 CF11 (by decide) fl_X11_145 rfl rfl h (fun t13 h => ?_)
    refine j_iconst C dX11_operand_113 rfl ?_
    refine j_isub C dX11_operand_114 ?_
    refine j_iload_n C dX11_operand_115 rfl ?_
    refine j_iast C dX11_operand_116 rfl h (fun m14 h => ?_)
    refine j_iconst C dX11_operand_117 rfl ?_
    obtain ⟨r15, er15, h⟩ := bind_some h
    have e := Option.some.inj h
    subst e
    exact j_rz C dX11_operand_118 rfl (retZ_some er15) rfl
set_option maxRecDepth 100000 in
set_option maxHeartbeats 4000000 in
theorem X11_operand_J66_ok {g : Gm} {w : Wd} (C : Cx g w RX11 cX11_operand 2 (some .boolean)) {lv : Nat} (hlv : 3 < lv) {N : Nat} {l0 : Nat} {s0 : Int} {m : Mem} {out : (Int × Mem)} (h : X11_operand_J66 N l0 s0 m = some out) : Jd g w 2 (rmL lv 0 0) (Qm g w (some (vI out.1)) out.2) 66 [some (vR l0), none] [vI s0] 312 m 0 0 := by
  unfold X11_operand_J66 at h
  refine j_istore_n (ls' := [some (vR _), some (vI _)]) C dX11_operand_66 (by decide) rfl ?_
  refine j_aload_n C dX11_operand_67 rfl ?_
  obtain ⟨p6, ep6, h⟩ := bind_some h
  have qp6 := X11_ahead_ct ep6
  refine j_cVV C dX11_operand_68 vl_X11_277 CF11 rfl qp6.1 qp6.2 (by omega) rfl rfl (Nat.le_of_ble_eq_true rfl) ?_
  refine j_aload_n C dX11_operand_71 rfl ?_
  obtain ⟨p7, ep7, h⟩ := bind_some h
  have qp7 := X11_lex_ct ep7
  refine j_cVV C dX11_operand_72 vl_X11_271 CF11 rfl qp7.1 qp7.2 (by omega) rfl rfl (Nat.le_of_ble_eq_true rfl) ?_
  refine j_aload_n C dX11_operand_75 rfl ?_
  refine j_bipush C dX11_operand_76 rfl ?_
  obtain ⟨p8, ep8, h⟩ := bind_some h
  have qp8 := X11_isSign_ct ep8
  refine j_cVI C dX11_operand_78 vl_X11_274 CF11 rfl qp8.1 qp8.2 (by omega) rfl rfl (Nat.le_of_ble_eq_true rfl) ?_
  refine j_if_ne C 93 dX11_operand_81 rfl h (fun c19 h => ?_) (fun c19 h => ?_)
  · exact X11_operand_J93_ok C hlv h
  · refine j_aload_n C dX11_operand_84 rfl ?_
    refine j_iconst C dX11_operand_85 rfl ?_
    refine j_aload_n C dX11_operand_86 rfl ?_
    refine j_getI C dX11_operand_87 CF11 (by decide) fl_X11_23 rfl rfl h (fun t17 h => ?_)
    obtain ⟨p18, ep18, h⟩ := bind_some h
    have qp18 := X11_blame_ct ep18
    refine j_cVV C dX11_operand_90 vl_X11_256 CF11 rfl qp18.1 qp18.2 (by omega) rfl rfl (Nat.le_of_ble_eq_true rfl) ?_
    exact X11_operand_J93_ok C hlv h
set_option maxRecDepth 100000 in
set_option maxHeartbeats 4000000 in
theorem X11_operand_J49_ok {g : Gm} {w : Wd} (C : Cx g w RX11 cX11_operand 2 (some .boolean)) {lv : Nat} (hlv : 3 < lv) {N : Nat} {l0 : Nat} {m : Mem} {out : (Int × Mem)} (h : X11_operand_J49 N l0 m = some out) : Jd g w 2 (rmL lv 0 0) (Qm g w (some (vI out.1)) out.2) 49 [some (vR l0), none] [] 312 m 0 0 := by
  unfold X11_operand_J49 at h
  refine j_aload_n C dX11_operand_49 rfl ?_
  refine j_ldc2 (v := 7170414) C dX11_operand_50 k_X11_330 rfl rfl ?_
  obtain ⟨p5, ep5, h⟩ := bind_some h
  have qp5 := X11_isWord_ct ep5
  refine j_cVI C dX11_operand_53 vl_X11_354 CF11 rfl qp5.1 qp5.2 (by omega) rfl rfl (Nat.le_of_ble_eq_true rfl) ?_
  refine j_if_eq C 64 dX11_operand_56 rfl h (fun c20 h => ?_) (fun c20 h => ?_)
  · refine j_bipush C dX11_operand_64 rfl ?_
    exact X11_operand_J66_ok C hlv h
  · refine j_bipush C dX11_operand_59 rfl ?_
    refine j_goto C 66 dX11_operand_61 rfl ?_
    exact X11_operand_J66_ok C hlv h
set_option maxRecDepth 100000 in
set_option maxHeartbeats 4000000 in
theorem X11_operand_J292_ok {g : Gm} {w : Wd} (C : Cx g w RX11 cX11_operand 2 (some .boolean)) {lv : Nat} (hlv : 3 < lv) {N : Nat} {l0 : Nat} {l1 : Int} {m : Mem} {out : (Int × Mem)} (h : X11_operand_J292 N l0 l1 m = some out) : Jd g w 2 (rmL lv 0 0) (Qm g w (some (vI out.1)) out.2) 292 [some (vR l0), some (vI l1)] [] 312 m 0 0 := by
  unfold X11_operand_J292 at h
  refine j_aload_n C dX11_operand_292 rfl ?_
  refine j_getI C dX11_operand_293 CF11 (by decide) fl_X11_36 rfl rfl h (fun t33 h => ?_)
  refine j_if_le C 301 dX11_operand_296 rfl h (fun c39 h => ?_) (fun c39 h => ?_)
  · refine j_aload_n C dX11_operand_301 rfl ?_
    refine j_iload_n C dX11_operand_302 rfl ?_
    refine j_aload_n C dX11_operand_303 rfl ?_
    refine j_getI C dX11_operand_304 CF11 (by decide) fl_X11_29 rfl rfl h (fun t34 h => ?_)
    obtain ⟨p35, ep35, h⟩ := bind_some h
    have qp35 := X11_add_ct ep35
    refine j_cVV C dX11_operand_307 vl_X11_345 CF11 rfl qp35.1 qp35.2 (by omega) rfl rfl (Nat.le_of_ble_eq_true rfl) ?_
    refine j_aload_n C dX11_operand_310 rfl ?_
    obtain ⟨p36, ep36, h⟩ := bind_some h
    have qp36 := X11_ahead_ct ep36
    refine j_cVV C dX11_operand_311 vl_X11_277 CF11 rfl qp36.1 qp36.2 (by omega) rfl rfl (Nat.le_of_ble_eq_true rfl) ?_
    refine j_iconst C dX11_operand_314 rfl ?_
    obtain ⟨r37, er37, h⟩ := bind_some h
    have e := Option.some.inj h
    subst e
    exact j_rz C dX11_operand_315 rfl (retZ_some er37) rfl
  · refine j_iconst C dX11_operand_299 rfl ?_
    obtain ⟨r38, er38, h⟩ := bind_some h
    have e := Option.some.inj h
    subst e
    exact j_rz C dX11_operand_300 rfl (retZ_some er38) rfl
set_option maxRecDepth 100000 in
set_option maxHeartbeats 4000000 in
theorem X11_operand_J277_ok {g : Gm} {w : Wd} (C : Cx g w RX11 cX11_operand 2 (some .boolean)) {lv : Nat} (hlv : 3 < lv) {N : Nat} {l0 : Nat} {s0 : Int} {m : Mem} {out : (Int × Mem)} (h : X11_operand_J277 N l0 s0 m = some out) : Jd g w 2 (rmL lv 0 0) (Qm g w (some (vI out.1)) out.2) 277 [some (vR l0), none] [vI s0] 312 m 0 0 := by
  unfold X11_operand_J277 at h
  refine j_istore_n (ls' := [some (vR _), some (vI _)]) C dX11_operand_277 (by decide) rfl ?_
  refine j_iload_n C dX11_operand_278 rfl ?_
  refine j_iconst C dX11_operand_279 rfl ?_
  refine j_icmp_ne C 292 dX11_operand_280 rfl h (fun c42 h => ?_) (fun c42 h => ?_)
  · exact X11_operand_J292_ok C hlv h
  · refine j_aload_n C dX11_operand_283 rfl ?_
    refine j_iconst C dX11_operand_284 rfl ?_
    refine j_aload_n C dX11_operand_285 rfl ?_
    refine j_getI C dX11_operand_286 CF11 (by decide) fl_X11_23 rfl rfl h (fun t40 h => ?_)
    obtain ⟨p41, ep41, h⟩ := bind_some h
    have qp41 := X11_blame_ct ep41
    refine j_cVV C dX11_operand_289 vl_X11_256 CF11 rfl qp41.1 qp41.2 (by omega) rfl rfl (Nat.le_of_ble_eq_true rfl) ?_
    exact X11_operand_J292_ok C hlv h
set_option maxRecDepth 100000 in
set_option maxHeartbeats 4000000 in
theorem X11_operand_ct {N : Nat} {l0 : Nat} {m : Mem} {out : (Int × Mem)} (h : X11_operand N l0 m = some out) : shK l0 = 11 + 10 ∧ CT yX11_operand cX11_operand 2 (some .boolean) 4 0 0 [vR l0] 312 m (some (vI out.1)) 312 out.2 := by
  unfold X11_operand at h
  obtain ⟨hK, h⟩ := ite_some h
  have hlv : 3 < 4 := by decide
  refine ⟨hK, CT.of (by decide +kernel) rfl (Nat.le_of_ble_eq_true rfl) (ls := [some (vR l0), none]) rfl fun g w C _ => ?_⟩
  refine j_aload_n C dX11_operand_0 rfl ?_
  obtain ⟨p1, ep1, h⟩ := bind_some h
  have qp1 := X11_lex_ct ep1
  refine j_cVV C dX11_operand_1 vl_X11_271 CF11 rfl qp1.1 qp1.2 (by omega) rfl rfl (Nat.le_of_ble_eq_true rfl) ?_
  refine j_aload_n C dX11_operand_4 rfl ?_
  refine j_getI C dX11_operand_5 CF11 (by decide) fl_X11_36 rfl rfl h (fun t2 h => ?_)
  refine j_if_le C 13 dX11_operand_8 rfl h (fun c60 h => ?_) (fun c60 h => ?_)
  · refine j_aload_n C dX11_operand_13 rfl ?_
    refine j_bipush C dX11_operand_14 rfl ?_
    obtain ⟨p3, ep3, h⟩ := bind_some h
    have qp3 := X11_isSign_ct ep3
    refine j_cVI C dX11_operand_16 vl_X11_274 CF11 rfl qp3.1 qp3.2 (by omega) rfl rfl (Nat.le_of_ble_eq_true rfl) ?_
    refine j_if_eq C 29 dX11_operand_19 rfl h (fun c58 h => ?_) (fun c58 h => ?_)
    · refine j_aload_n C dX11_operand_29 rfl ?_
      refine j_ldc2 (v := 7170414) C dX11_operand_30 k_X11_330 rfl rfl ?_
      obtain ⟨p4, ep4, h⟩ := bind_some h
      have qp4 := X11_isWord_ct ep4
      refine j_cVI C dX11_operand_33 vl_X11_354 CF11 rfl qp4.1 qp4.2 (by omega) rfl rfl (Nat.le_of_ble_eq_true rfl) ?_
      refine j_if_ne C 49 dX11_operand_36 rfl h (fun c55 h => ?_) (fun c55 h => ?_)
      · exact X11_operand_J49_ok C hlv h
      · refine j_aload_n C dX11_operand_39 rfl ?_
        refine j_ldc2 (v := 7168376) C dX11_operand_40 k_X11_332 rfl rfl ?_
        obtain ⟨p21, ep21, h⟩ := bind_some h
        have qp21 := X11_isWord_ct ep21
        refine j_cVI C dX11_operand_43 vl_X11_354 CF11 rfl qp21.1 qp21.2 (by omega) rfl rfl (Nat.le_of_ble_eq_true rfl) ?_
        refine j_if_eq C 119 dX11_operand_46 rfl h (fun c54 h => ?_) (fun c54 h => ?_)
        · refine j_aload_n C dX11_operand_119 rfl ?_
          refine j_getI C dX11_operand_120 CF11 (by decide) fl_X11_20 rfl rfl h (fun t22 h => ?_)
          refine j_iconst C dX11_operand_123 rfl ?_
          refine j_icmp_ne C 131 dX11_operand_124 rfl h (fun c53 h => ?_) (fun c53 h => ?_)
          · refine j_aload_n C dX11_operand_131 rfl ?_
            refine j_ldc2 (v := 499850634611) C dX11_operand_132 k_X11_294 rfl rfl ?_
            obtain ⟨p23, ep23, h⟩ := bind_some h
            have qp23 := X11_isWord_ct ep23
            refine j_cVI C dX11_operand_135 vl_X11_354 CF11 rfl qp23.1 qp23.2 (by omega) rfl rfl (Nat.le_of_ble_eq_true rfl) ?_
            refine j_if_eq C 145 dX11_operand_138 rfl h (fun c52 h => ?_) (fun c52 h => ?_)
            · refine j_aload_n C dX11_operand_145 rfl ?_
              refine j_ldc2 (v := 1869636974) C dX11_operand_146 k_X11_312 rfl rfl ?_
              obtain ⟨p24, ep24, h⟩ := bind_some h
              have qp24 := X11_isWord_ct ep24
              refine j_cVI C dX11_operand_149 vl_X11_354 CF11 rfl qp24.1 qp24.2 (by omega) rfl rfl (Nat.le_of_ble_eq_true rfl) ?_
              refine j_if_eq C 159 dX11_operand_152 rfl h (fun c51 h => ?_) (fun c51 h => ?_)
              · refine j_aload_n C dX11_operand_159 rfl ?_
                refine j_ldc2 (v := 1751738216) C dX11_operand_160 k_X11_314 rfl rfl ?_
                obtain ⟨p25, ep25, h⟩ := bind_some h
                have qp25 := X11_isWord_ct ep25
                refine j_cVI C dX11_operand_163 vl_X11_354 CF11 rfl qp25.1 qp25.2 (by omega) rfl rfl (Nat.le_of_ble_eq_true rfl) ?_
                refine j_if_eq C 173 dX11_operand_166 rfl h (fun c50 h => ?_) (fun c50 h => ?_)
                · refine j_aload_n C dX11_operand_173 rfl ?_
                  refine j_ldc2 (v := 1668246628) C dX11_operand_174 k_X11_316 rfl rfl ?_
                  obtain ⟨p26, ep26, h⟩ := bind_some h
                  have qp26 := X11_isWord_ct ep26
                  refine j_cVI C dX11_operand_177 vl_X11_354 CF11 rfl qp26.1 qp26.2 (by omega) rfl rfl (Nat.le_of_ble_eq_true rfl) ?_
                  refine j_if_eq C 187 dX11_operand_180 rfl h (fun c49 h => ?_) (fun c49 h => ?_)
                  · refine j_aload_n C dX11_operand_187 rfl ?_
                    refine j_ldc2 (v := 1752135026) C dX11_operand_188 k_X11_318 rfl rfl ?_
                    obtain ⟨p27, ep27, h⟩ := bind_some h
                    have qp27 := X11_isWord_ct ep27
                    refine j_cVI C dX11_operand_191 vl_X11_354 CF11 rfl qp27.1 qp27.2 (by omega) rfl rfl (Nat.le_of_ble_eq_true rfl) ?_
                    refine j_if_eq C 201 dX11_operand_194 rfl h (fun c48 h => ?_) (fun c48 h => ?_)
                    · refine j_aload_n C dX11_operand_201 rfl ?_
                      refine j_ldc2 (v := 427021006180) C dX11_operand_202 k_X11_320 rfl rfl ?_
                      obtain ⟨p28, ep28, h⟩ := bind_some h
                      have qp28 := X11_isWord_ct ep28
                      refine j_cVI C dX11_operand_205 vl_X11_354 CF11 rfl qp28.1 qp28.2 (by omega) rfl rfl (Nat.le_of_ble_eq_true rfl) ?_
                      refine j_if_eq C 216 dX11_operand_208 rfl h (fun c47 h => ?_) (fun c47 h => ?_)
                      · refine j_aload_n C dX11_operand_216 rfl ?_
                        refine j_ldc2 (v := 2003398244) C dX11_operand_217 k_X11_322 rfl rfl ?_
                        obtain ⟨p29, ep29, h⟩ := bind_some h
                        have qp29 := X11_isWord_ct ep29
                        refine j_cVI C dX11_operand_220 vl_X11_354 CF11 rfl qp29.1 qp29.2 (by omega) rfl rfl (Nat.le_of_ble_eq_true rfl) ?_
                        refine j_if_eq C 231 dX11_operand_223 rfl h (fun c46 h => ?_) (fun c46 h => ?_)
                        · refine j_aload_n C dX11_operand_231 rfl ?_
                          refine j_ldc2 (v := 495757257573) C dX11_operand_232 k_X11_324 rfl rfl ?_
                          obtain ⟨p30, ep30, h⟩ := bind_some h
                          have qp30 := X11_isWord_ct ep30
                          refine j_cVI C dX11_operand_235 vl_X11_354 CF11 rfl qp30.1 qp30.2 (by omega) rfl rfl (Nat.le_of_ble_eq_true rfl) ?_
                          refine j_if_eq C 246 dX11_operand_238 rfl h (fun c45 h => ?_) (fun c45 h => ?_)
                          · refine j_aload_n C dX11_operand_246 rfl ?_
                            refine j_ldc2 (v := 1852137842) C dX11_operand_247 k_X11_326 rfl rfl ?_
                            obtain ⟨p31, ep31, h⟩ := bind_some h
                            have qp31 := X11_isWord_ct ep31
                            refine j_cVI C dX11_operand_250 vl_X11_354 CF11 rfl qp31.1 qp31.2 (by omega) rfl rfl (Nat.le_of_ble_eq_true rfl) ?_
                            refine j_if_eq C 261 dX11_operand_253 rfl h (fun c44 h => ?_) (fun c44 h => ?_)
                            · refine j_aload_n C dX11_operand_261 rfl ?_
                              refine j_ldc2 (v := 7824756) C dX11_operand_262 k_X11_328 rfl rfl ?_
                              obtain ⟨p32, ep32, h⟩ := bind_some h
                              have qp32 := X11_isWord_ct ep32
                              refine j_cVI C dX11_operand_265 vl_X11_354 CF11 rfl qp32.1 qp32.2 (by omega) rfl rfl (Nat.le_of_ble_eq_true rfl) ?_
                              refine j_if_eq C 276 dX11_operand_268 rfl h (fun c43 h => ?_) (fun c43 h => ?_)
                              · refine j_iconst C dX11_operand_276 rfl ?_
                                exact X11_operand_J277_ok C hlv h
                              · refine j_bipush C dX11_operand_271 rfl ?_
                                refine j_goto C 277 dX11_operand_273 rfl ?_
                                exact X11_operand_J277_ok C hlv h
                            · refine j_bipush C dX11_operand_256 rfl ?_
                              refine j_goto C 277 dX11_operand_258 rfl ?_
                              exact X11_operand_J277_ok C hlv h
                          · refine j_bipush C dX11_operand_241 rfl ?_
                            refine j_goto C 277 dX11_operand_243 rfl ?_
                            exact X11_operand_J277_ok C hlv h
                        · refine j_bipush C dX11_operand_226 rfl ?_
                          refine j_goto C 277 dX11_operand_228 rfl ?_
                          exact X11_operand_J277_ok C hlv h
                      · refine j_bipush C dX11_operand_211 rfl ?_
                        refine j_goto C 277 dX11_operand_213 rfl ?_
                        exact X11_operand_J277_ok C hlv h
                    · refine j_iconst C dX11_operand_197 rfl ?_
                      refine j_goto C 277 dX11_operand_198 rfl ?_
                      exact X11_operand_J277_ok C hlv h
                  · refine j_iconst C dX11_operand_183 rfl ?_
                    refine j_goto C 277 dX11_operand_184 rfl ?_
                    exact X11_operand_J277_ok C hlv h
                · refine j_iconst C dX11_operand_169 rfl ?_
                  refine j_goto C 277 dX11_operand_170 rfl ?_
                  exact X11_operand_J277_ok C hlv h
              · refine j_iconst C dX11_operand_155 rfl ?_
                refine j_goto C 277 dX11_operand_156 rfl ?_
                exact X11_operand_J277_ok C hlv h
            · refine j_iconst C dX11_operand_141 rfl ?_
              refine j_goto C 277 dX11_operand_142 rfl ?_
              exact X11_operand_J277_ok C hlv h
          · refine j_iconst C dX11_operand_127 rfl ?_
            refine j_goto C 277 dX11_operand_128 rfl ?_
            exact X11_operand_J277_ok C hlv h
        · exact X11_operand_J49_ok C hlv h
    · refine j_aload_n C dX11_operand_22 rfl ?_
      refine j_iconst C dX11_operand_23 rfl ?_
      obtain ⟨p56, ep56, h⟩ := bind_some h
      have qp56 := X11_opens_ct ep56
      refine j_cVV C dX11_operand_24 vl_X11_351 CF11 rfl qp56.1 qp56.2 (by omega) rfl rfl (Nat.le_of_ble_eq_true rfl) ?_
      refine j_iconst C dX11_operand_27 rfl ?_
      obtain ⟨r57, er57, h⟩ := bind_some h
      have e := Option.some.inj h
      subst e
      exact j_rz C dX11_operand_28 rfl (retZ_some er57) rfl
  · refine j_iconst C dX11_operand_11 rfl ?_
    obtain ⟨r59, er59, h⟩ := bind_some h
    have e := Option.some.inj h
    subst e
    exact j_rz C dX11_operand_12 rfl (retZ_some er59) rfl
theorem dX11_rank_0 : decode cX11_rank 0 = .ok (.iload_n 0, 1) := by decide +kernel
theorem dX11_rank_1 : decode cX11_rank 1 = .ok (.bipush 10, 2) := by decide +kernel
theorem dX11_rank_3 : decode cX11_rank 3 = .ok (.if_icmp .eq 9, 3) := by decide +kernel
theorem dX11_rank_6 : decode cX11_rank 6 = .ok (.iload_n 0, 1) := by decide +kernel
theorem dX11_rank_7 : decode cX11_rank 7 = .ok (.bipush 11, 2) := by decide +kernel
theorem dX11_rank_9 : decode cX11_rank 9 = .ok (.if_icmp .ne 7, 3) := by decide +kernel
theorem dX11_rank_12 : decode cX11_rank 12 = .ok (.iconst 5, 1) := by decide +kernel
theorem dX11_rank_13 : decode cX11_rank 13 = .ok (.goto 5, 3) := by decide +kernel
theorem dX11_rank_16 : decode cX11_rank 16 = .ok (.bipush 6, 2) := by decide +kernel
theorem dX11_rank_18 : decode cX11_rank 18 = .ok (.ireturn, 1) := by decide +kernel
set_option maxRecDepth 100000 in
set_option maxHeartbeats 4000000 in
theorem X11_rank_J12_ok {g : Gm} {w : Wd} (C : Cx g w RX11 cX11_rank 1 (some .int)) {lv : Nat} (hlv : 0 < lv)  {m : Mem} {out : Int} (h : X11_rank_J12 m = some out) : Jd g w 1 (rmL lv 0 0) (Qm g w (some (vI out)) m) 12 [none] [] 312 m 0 0 := by
  unfold X11_rank_J12 at h
  refine j_iconst C dX11_rank_12 rfl ?_
  refine j_goto C 18 dX11_rank_13 rfl ?_
  exact j_ri C dX11_rank_18 rfl (Option.some.inj h).symm rfl
set_option maxRecDepth 100000 in
set_option maxHeartbeats 4000000 in
theorem X11_rank_ct {l0 : Int} {m : Mem} {out : Int} (h : X11_rank l0 m = some out) : CT yX11_rank cX11_rank 1 (some .int) 1 0 0 [vI l0] 312 m (some (vI out)) 312 m := by
  unfold X11_rank at h
  have hlv : 0 < 1 := by decide
  refine CT.of (by decide +kernel) rfl (Nat.le_of_ble_eq_true rfl) (ls := [some (vI l0)]) rfl fun g w C _ => ?_
  refine j_iload_n C dX11_rank_0 rfl ?_
  refine j_bipush C dX11_rank_1 rfl ?_
  refine j_icmp_eq C 12 dX11_rank_3 rfl h (fun c2 h => ?_) (fun c2 h => ?_)
  · refine j_mask [false] (ls' := [none]) rfl ?_
    exact X11_rank_J12_ok C hlv h
  · refine j_iload_n C dX11_rank_6 rfl ?_
    refine j_bipush C dX11_rank_7 rfl ?_
    refine j_icmp_ne C 16 dX11_rank_9 rfl h (fun c1 h => ?_) (fun c1 h => ?_)
    · refine j_bipush C dX11_rank_16 rfl ?_
      exact j_ri C dX11_rank_18 rfl (Option.some.inj h).symm rfl
    · refine j_mask [false] (ls' := [none]) rfl ?_
      exact X11_rank_J12_ok C hlv h
theorem dX11_joins_0 : decode cX11_joins 0 = .ok (.aload_n 0, 1) := by decide +kernel
theorem dX11_joins_1 : decode cX11_joins 1 = .ok (.getfield 154, 3) := by decide +kernel
theorem dX11_joins_4 : decode cX11_joins 4 = .ok (.aload_n 0, 1) := by decide +kernel
theorem dX11_joins_5 : decode cX11_joins 5 = .ok (.getfield 142, 3) := by decide +kernel
theorem dX11_joins_8 : decode cX11_joins 8 = .ok (.aload_n 0, 1) := by decide +kernel
theorem dX11_joins_9 : decode cX11_joins 9 = .ok (.getfield 145, 3) := by decide +kernel
theorem dX11_joins_12 : decode cX11_joins 12 = .ok (.iconst 1, 1) := by decide +kernel
theorem dX11_joins_13 : decode cX11_joins 13 = .ok (.isub, 1) := by decide +kernel
theorem dX11_joins_14 : decode cX11_joins 14 = .ok (.iaload, 1) := by decide +kernel
theorem dX11_joins_15 : decode cX11_joins 15 = .ok (.if_icmp .le 48, 3) := by decide +kernel
theorem dX11_joins_18 : decode cX11_joins 18 = .ok (.aload_n 0, 1) := by decide +kernel
theorem dX11_joins_19 : decode cX11_joins 19 = .ok (.getfield 151, 3) := by decide +kernel
theorem dX11_joins_22 : decode cX11_joins 22 = .ok (.aload_n 0, 1) := by decide +kernel
theorem dX11_joins_23 : decode cX11_joins 23 = .ok (.getfield 154, 3) := by decide +kernel
theorem dX11_joins_26 : decode cX11_joins 26 = .ok (.iconst 1, 1) := by decide +kernel
theorem dX11_joins_27 : decode cX11_joins 27 = .ok (.isub, 1) := by decide +kernel
theorem dX11_joins_28 : decode cX11_joins 28 = .ok (.iaload, 1) := by decide +kernel
theorem dX11_joins_29 : decode cX11_joins 29 = .ok (.invokestatic 342, 3) := by decide +kernel
theorem dX11_joins_32 : decode cX11_joins 32 = .ok (.iload_n 1, 1) := by decide +kernel
theorem dX11_joins_33 : decode cX11_joins 33 = .ok (.if_icmp .lt 30, 3) := by decide +kernel
theorem dX11_joins_36 : decode cX11_joins 36 = .ok (.aload_n 0, 1) := by decide +kernel
theorem dX11_joins_37 : decode cX11_joins 37 = .ok (.dup, 1) := by decide +kernel
theorem dX11_joins_38 : decode cX11_joins 38 = .ok (.getfield 154, 3) := by decide +kernel
theorem dX11_joins_41 : decode cX11_joins 41 = .ok (.iconst 1, 1) := by decide +kernel
theorem dX11_joins_42 : decode cX11_joins 42 = .ok (.isub, 1) := by decide +kernel
theorem dX11_joins_43 : decode cX11_joins 43 = .ok (.putfield 154, 3) := by decide +kernel
theorem dX11_joins_46 : decode cX11_joins 46 = .ok (.aload_n 0, 1) := by decide +kernel
theorem dX11_joins_47 : decode cX11_joins 47 = .ok (.aload_n 0, 1) := by decide +kernel
theorem dX11_joins_48 : decode cX11_joins 48 = .ok (.getfield 151, 3) := by decide +kernel
theorem dX11_joins_51 : decode cX11_joins 51 = .ok (.aload_n 0, 1) := by decide +kernel
theorem dX11_joins_52 : decode cX11_joins 52 = .ok (.getfield 154, 3) := by decide +kernel
theorem dX11_joins_55 : decode cX11_joins 55 = .ok (.iaload, 1) := by decide +kernel
theorem dX11_joins_56 : decode cX11_joins 56 = .ok (.iconst 0, 1) := by decide +kernel
theorem dX11_joins_57 : decode cX11_joins 57 = .ok (.invokevirtual 345, 3) := by decide +kernel
theorem dX11_joins_60 : decode cX11_joins 60 = .ok (.goto (-60), 3) := by decide +kernel
theorem dX11_joins_63 : decode cX11_joins 63 = .ok (.return_, 1) := by decide +kernel
set_option maxRecDepth 100000 in
set_option maxHeartbeats 4000000 in
theorem X11_joins_L0_bok {g : Gm} {w : Wd} (C : Cx g w RX11 cX11_joins 2 none) {lv : Nat} (hlv : 1 < lv) {N : Nat} {r0 : Nat → Int → Mem → Option Mem} {l0 : Nat} {l1 : Int} {m : Mem} {out : Mem} (hr0 : ∀ l0 l1 m, r0 l0 l1 m = some out → Jd g w 2 (rmL lv 0 0) (Qm g w none out) 0 [some (vR l0), some (vI l1)] [] 312 m 0 0) (h : X11_joins_L0_b N r0 l0 l1 m = some out) : Jd g w 2 (rmL lv 0 0) (Qm g w none out) 0 [some (vR l0), some (vI l1)] [] 312 m 0 0 := by
  unfold X11_joins_L0_b at h
  refine j_aload_n C dX11_joins_0 rfl ?_
  refine j_getI C dX11_joins_1 CF11 (by decide) fl_X11_154 rfl rfl h (fun t15 h => ?_)
  refine j_aload_n C dX11_joins_4 rfl ?_
  refine j_getR C dX11_joins_5 CF11 (by decide) fl_X11_142 rfl rfl h (fun t16 h => ?_)
  refine j_aload_n C dX11_joins_8 rfl ?_
  refine j_getI C dX11_joins_9 CF11 (by decide) fl_X11_145 rfl rfl h (fun t17 h => ?_)
  refine j_iconst C dX11_joins_12 rfl ?_
  refine j_isub C dX11_joins_13 ?_
  refine j_iald C dX11_joins_14 rfl h (fun t18 h => ?_)
  refine j_icmp_le C 63 dX11_joins_15 rfl h (fun c30 h => ?_) (fun c30 h => ?_)
  · have e := Option.some.inj h
    subst e
    exact j_rv C dX11_joins_63 rfl rfl
  · refine j_aload_n C dX11_joins_18 rfl ?_
    refine j_getR C dX11_joins_19 CF11 (by decide) fl_X11_151 rfl rfl h (fun t19 h => ?_)
    refine j_aload_n C dX11_joins_22 rfl ?_
    refine j_getI C dX11_joins_23 CF11 (by decide) fl_X11_154 rfl rfl h (fun t20 h => ?_)
    refine j_iconst C dX11_joins_26 rfl ?_
    refine j_isub C dX11_joins_27 ?_
    refine j_iald C dX11_joins_28 rfl h (fun t21 h => ?_)
    obtain ⟨p22, ep22, h⟩ := bind_some h
    have qp22 := X11_rank_ct ep22
    refine j_cSI C dX11_joins_29 sl_X11_342 qp22 (by omega) rfl rfl (Nat.le_of_ble_eq_true rfl) ?_
    refine j_iload_n C dX11_joins_32 rfl ?_
    refine j_icmp_lt C 63 dX11_joins_33 rfl h (fun c29 h => ?_) (fun c29 h => ?_)
    · have e := Option.some.inj h
      subst e
      exact j_rv C dX11_joins_63 rfl rfl
    · refine j_aload_n C dX11_joins_36 rfl ?_
      refine j_dup C dX11_joins_37 rfl ?_
      refine j_getI C dX11_joins_38 CF11 (by decide) fl_X11_154 rfl rfl h (fun t23 h => ?_)
      refine j_iconst C dX11_joins_41 rfl ?_
      refine j_isub C dX11_joins_42 ?_
      refine j_putI C dX11_joins_43 CF11 (by decide) fl_X11_154 rfl rfl rfl rfl h (fun m24 h => ?_)
      refine j_aload_n C dX11_joins_46 rfl ?_
      refine j_aload_n C dX11_joins_47 rfl ?_
      refine j_getR C dX11_joins_48 CF11 (by decide) fl_X11_151 rfl rfl h (fun t25 h => ?_)
      refine j_aload_n C dX11_joins_51 rfl ?_
      refine j_getI C dX11_joins_52 CF11 (by decide) fl_X11_154 rfl rfl h (fun t26 h => ?_)
      refine j_iald C dX11_joins_55 rfl h (fun t27 h => ?_)
      refine j_iconst C dX11_joins_56 rfl ?_
      obtain ⟨p28, ep28, h⟩ := bind_some h
      have qp28 := X11_add_ct ep28
      refine j_cVV C dX11_joins_57 vl_X11_345 CF11 rfl qp28.1 qp28.2 (by omega) rfl rfl (Nat.le_of_ble_eq_true rfl) ?_
      refine j_goto C 0 dX11_joins_60 rfl ?_
      exact hr0 _ _ _ h
set_option maxRecDepth 100000 in
set_option maxHeartbeats 4000000 in
theorem X11_joins_L0_ok {g : Gm} {w : Wd} (C : Cx g w RX11 cX11_joins 2 none) {lv : Nat} (hlv : 1 < lv) {N : Nat} {out : Mem} (f : Nat) : ∀ {l0 : Nat} {l1 : Int} {m : Mem}, X11_joins_L0 N f l0 l1 m = some out → Jd g w 2 (rmL lv 0 0) (Qm g w none out) 0 [some (vR l0), some (vI l1)] [] 312 m 0 0 := by
  induction f with
  | zero => intro l0 l1 m h; exact none_ne (α := Mem) h
  | succ f ih => intro l0 l1 m h; exact X11_joins_L0_bok C hlv (fun l0 l1 m h => ih h) h
set_option maxRecDepth 100000 in
set_option maxHeartbeats 4000000 in
theorem X11_joins_ct {N : Nat} {l0 : Nat} {l1 : Int} {m : Mem} {out : Mem} (h : X11_joins N l0 l1 m = some out) : shK l0 = 11 + 10 ∧ CT yX11_joins cX11_joins 2 none 2 0 0 [vR l0, vI l1] 312 m none 312 out := by
  unfold X11_joins at h
  obtain ⟨hK, h⟩ := ite_some h
  have hlv : 1 < 2 := by decide
  refine ⟨hK, CT.of (by decide +kernel) rfl (Nat.le_of_ble_eq_true rfl) (ls := [some (vR l0), some (vI l1)]) rfl fun g w C _ => ?_⟩
  refine j_aload_n C dX11_joins_0 rfl ?_
  refine j_getI C dX11_joins_1 CF11 (by decide) fl_X11_154 rfl rfl h (fun t1 h => ?_)
  refine j_aload_n C dX11_joins_4 rfl ?_
  refine j_getR C dX11_joins_5 CF11 (by decide) fl_X11_142 rfl rfl h (fun t2 h => ?_)
  refine j_aload_n C dX11_joins_8 rfl ?_
  refine j_getI C dX11_joins_9 CF11 (by decide) fl_X11_145 rfl rfl h (fun t3 h => ?_)
  refine j_iconst C dX11_joins_12 rfl ?_
  refine j_isub C dX11_joins_13 ?_
  refine j_iald C dX11_joins_14 rfl h (fun t4 h => ?_)
  refine j_icmp_le C 63 dX11_joins_15 rfl h (fun c32 h => ?_) (fun c32 h => ?_)
  · have e := Option.some.inj h
    subst e
    exact j_rv C dX11_joins_63 rfl rfl
  · refine j_aload_n C dX11_joins_18 rfl ?_
    refine j_getR C dX11_joins_19 CF11 (by decide) fl_X11_151 rfl rfl h (fun t5 h => ?_)
    refine j_aload_n C dX11_joins_22 rfl ?_
    refine j_getI C dX11_joins_23 CF11 (by decide) fl_X11_154 rfl rfl h (fun t6 h => ?_)
    refine j_iconst C dX11_joins_26 rfl ?_
    refine j_isub C dX11_joins_27 ?_
    refine j_iald C dX11_joins_28 rfl h (fun t7 h => ?_)
    obtain ⟨p8, ep8, h⟩ := bind_some h
    have qp8 := X11_rank_ct ep8
    refine j_cSI C dX11_joins_29 sl_X11_342 qp8 (by omega) rfl rfl (Nat.le_of_ble_eq_true rfl) ?_
    refine j_iload_n C dX11_joins_32 rfl ?_
    refine j_icmp_lt C 63 dX11_joins_33 rfl h (fun c31 h => ?_) (fun c31 h => ?_)
    · have e := Option.some.inj h
      subst e
      exact j_rv C dX11_joins_63 rfl rfl
    · refine j_aload_n C dX11_joins_36 rfl ?_
      refine j_dup C dX11_joins_37 rfl ?_
      refine j_getI C dX11_joins_38 CF11 (by decide) fl_X11_154 rfl rfl h (fun t9 h => ?_)
      refine j_iconst C dX11_joins_41 rfl ?_
      refine j_isub C dX11_joins_42 ?_
      refine j_putI C dX11_joins_43 CF11 (by decide) fl_X11_154 rfl rfl rfl rfl h (fun m10 h => ?_)
      refine j_aload_n C dX11_joins_46 rfl ?_
      refine j_aload_n C dX11_joins_47 rfl ?_
      refine j_getR C dX11_joins_48 CF11 (by decide) fl_X11_151 rfl rfl h (fun t11 h => ?_)
      refine j_aload_n C dX11_joins_51 rfl ?_
      refine j_getI C dX11_joins_52 CF11 (by decide) fl_X11_154 rfl rfl h (fun t12 h => ?_)
      refine j_iald C dX11_joins_55 rfl h (fun t13 h => ?_)
      refine j_iconst C dX11_joins_56 rfl ?_
      obtain ⟨p14, ep14, h⟩ := bind_some h
      have qp14 := X11_add_ct ep14
      refine j_cVV C dX11_joins_57 vl_X11_345 CF11 rfl qp14.1 qp14.2 (by omega) rfl rfl (Nat.le_of_ble_eq_true rfl) ?_
      refine j_goto C 0 dX11_joins_60 rfl ?_
      exact X11_joins_L0_ok C hlv N h
theorem dX11_holdsBack_0 : decode cX11_holdsBack 0 = .ok (.aload_n 0, 1) := by decide +kernel
theorem dX11_holdsBack_1 : decode cX11_holdsBack 1 = .ok (.getfield 151, 3) := by decide +kernel
theorem dX11_holdsBack_4 : decode cX11_holdsBack 4 = .ok (.aload_n 0, 1) := by decide +kernel
theorem dX11_holdsBack_5 : decode cX11_holdsBack 5 = .ok (.getfield 154, 3) := by decide +kernel
theorem dX11_holdsBack_8 : decode cX11_holdsBack 8 = .ok (.iload_n 1, 1) := by decide +kernel
theorem dX11_holdsBack_9 : decode cX11_holdsBack 9 = .ok (.iastore, 1) := by decide +kernel
theorem dX11_holdsBack_10 : decode cX11_holdsBack 10 = .ok (.aload_n 0, 1) := by decide +kernel
theorem dX11_holdsBack_11 : decode cX11_holdsBack 11 = .ok (.dup, 1) := by decide +kernel
theorem dX11_holdsBack_12 : decode cX11_holdsBack 12 = .ok (.getfield 154, 3) := by decide +kernel
theorem dX11_holdsBack_15 : decode cX11_holdsBack 15 = .ok (.iconst 1, 1) := by decide +kernel
theorem dX11_holdsBack_16 : decode cX11_holdsBack 16 = .ok (.iadd, 1) := by decide +kernel
theorem dX11_holdsBack_17 : decode cX11_holdsBack 17 = .ok (.putfield 154, 3) := by decide +kernel
theorem dX11_holdsBack_20 : decode cX11_holdsBack 20 = .ok (.return_, 1) := by decide +kernel
set_option maxRecDepth 100000 in
set_option maxHeartbeats 4000000 in
theorem X11_holdsBack_ct {l0 : Nat} {l1 : Int} {m : Mem} {out : Mem} (h : X11_holdsBack l0 l1 m = some out) : shK l0 = 11 + 10 ∧ CT yX11_holdsBack cX11_holdsBack 2 none 1 0 0 [vR l0, vI l1] 312 m none 312 out := by
  unfold X11_holdsBack at h
  obtain ⟨hK, h⟩ := ite_some h
  have hlv : 0 < 1 := by decide
  refine ⟨hK, CT.of (by decide +kernel) rfl (Nat.le_of_ble_eq_true rfl) (ls := [some (vR l0), some (vI l1)]) rfl fun g w C _ => ?_⟩
  refine j_aload_n C dX11_holdsBack_0 rfl ?_
  refine j_getR C dX11_holdsBack_1 CF11 (by decide) fl_X11_151 rfl rfl h (fun t1 h => ?_)
  refine j_aload_n C dX11_holdsBack_4 rfl ?_
  refine j_getI C dX11_holdsBack_5 CF11 (by decide) fl_X11_154 rfl rfl h (fun t2 h => ?_)
  refine j_iload_n C dX11_holdsBack_8 rfl ?_
  refine j_iast C dX11_holdsBack_9 rfl h (fun m3 h => ?_)
  refine j_aload_n C dX11_holdsBack_10 rfl ?_
  refine j_dup C dX11_holdsBack_11 rfl ?_
  refine j_getI C dX11_holdsBack_12 CF11 (by decide) fl_X11_154 rfl rfl h (fun t4 h => ?_)
  refine j_iconst C dX11_holdsBack_15 rfl ?_
  refine j_iadd C dX11_holdsBack_16 ?_
  refine j_putI C dX11_holdsBack_17 CF11 (by decide) fl_X11_154 rfl rfl rfl rfl h (fun m5 h => ?_)
  have e := Option.some.inj h
  subst e
  exact j_rv C dX11_holdsBack_20 rfl rfl
theorem dX11_goesOn_0 : decode cX11_goesOn 0 = .ok (.aload_n 0, 1) := by decide +kernel
theorem dX11_goesOn_1 : decode cX11_goesOn 1 = .ok (.invokevirtual 271, 3) := by decide +kernel
theorem dX11_goesOn_4 : decode cX11_goesOn 4 = .ok (.aload_n 0, 1) := by decide +kernel
theorem dX11_goesOn_5 : decode cX11_goesOn 5 = .ok (.getfield 36, 3) := by decide +kernel
theorem dX11_goesOn_8 : decode cX11_goesOn 8 = .ok (.ifCond .le 5, 3) := by decide +kernel
theorem dX11_goesOn_11 : decode cX11_goesOn 11 = .ok (.iconst 0, 1) := by decide +kernel
theorem dX11_goesOn_12 : decode cX11_goesOn 12 = .ok (.ireturn, 1) := by decide +kernel
theorem dX11_goesOn_13 : decode cX11_goesOn 13 = .ok (.aload_n 0, 1) := by decide +kernel
theorem dX11_goesOn_14 : decode cX11_goesOn 14 = .ok (.getfield 145, 3) := by decide +kernel
theorem dX11_goesOn_17 : decode cX11_goesOn 17 = .ok (.iconst 1, 1) := by decide +kernel
theorem dX11_goesOn_18 : decode cX11_goesOn 18 = .ok (.isub, 1) := by decide +kernel
theorem dX11_goesOn_19 : decode cX11_goesOn 19 = .ok (.istore_n 1, 1) := by decide +kernel
theorem dX11_goesOn_20 : decode cX11_goesOn 20 = .ok (.aload_n 0, 1) := by decide +kernel
theorem dX11_goesOn_21 : decode cX11_goesOn 21 = .ok (.getfield 136, 3) := by decide +kernel
theorem dX11_goesOn_24 : decode cX11_goesOn 24 = .ok (.iload_n 1, 1) := by decide +kernel
theorem dX11_goesOn_25 : decode cX11_goesOn 25 = .ok (.iaload, 1) := by decide +kernel
theorem dX11_goesOn_26 : decode cX11_goesOn 26 = .ok (.istore_n 2, 1) := by decide +kernel
theorem dX11_goesOn_27 : decode cX11_goesOn 27 = .ok (.aload_n 0, 1) := by decide +kernel
theorem dX11_goesOn_28 : decode cX11_goesOn 28 = .ok (.bipush 43, 2) := by decide +kernel
theorem dX11_goesOn_30 : decode cX11_goesOn 30 = .ok (.invokevirtual 274, 3) := by decide +kernel
theorem dX11_goesOn_33 : decode cX11_goesOn 33 = .ok (.ifCond .ne 39, 3) := by decide +kernel
theorem dX11_goesOn_36 : decode cX11_goesOn 36 = .ok (.aload_n 0, 1) := by decide +kernel
theorem dX11_goesOn_37 : decode cX11_goesOn 37 = .ok (.bipush 45, 2) := by decide +kernel
theorem dX11_goesOn_39 : decode cX11_goesOn 39 = .ok (.invokevirtual 274, 3) := by decide +kernel
theorem dX11_goesOn_42 : decode cX11_goesOn 42 = .ok (.ifCond .ne 30, 3) := by decide +kernel
theorem dX11_goesOn_45 : decode cX11_goesOn 45 = .ok (.aload_n 0, 1) := by decide +kernel
theorem dX11_goesOn_46 : decode cX11_goesOn 46 = .ok (.bipush 42, 2) := by decide +kernel
theorem dX11_goesOn_48 : decode cX11_goesOn 48 = .ok (.invokevirtual 274, 3) := by decide +kernel
theorem dX11_goesOn_51 : decode cX11_goesOn 51 = .ok (.ifCond .ne 21, 3) := by decide +kernel
theorem dX11_goesOn_54 : decode cX11_goesOn 54 = .ok (.aload_n 0, 1) := by decide +kernel
theorem dX11_goesOn_55 : decode cX11_goesOn 55 = .ok (.bipush 47, 2) := by decide +kernel
theorem dX11_goesOn_57 : decode cX11_goesOn 57 = .ok (.invokevirtual 274, 3) := by decide +kernel
theorem dX11_goesOn_60 : decode cX11_goesOn 60 = .ok (.ifCond .ne 12, 3) := by decide +kernel
theorem dX11_goesOn_63 : decode cX11_goesOn 63 = .ok (.aload_n 0, 1) := by decide +kernel
theorem dX11_goesOn_64 : decode cX11_goesOn 64 = .ok (.bipush 37, 2) := by decide +kernel
theorem dX11_goesOn_66 : decode cX11_goesOn 66 = .ok (.invokevirtual 274, 3) := by decide +kernel
theorem dX11_goesOn_69 : decode cX11_goesOn 69 = .ok (.ifCond .eq 104, 3) := by decide +kernel
theorem dX11_goesOn_72 : decode cX11_goesOn 72 = .ok (.aload_n 0, 1) := by decide +kernel
theorem dX11_goesOn_73 : decode cX11_goesOn 73 = .ok (.aload_n 0, 1) := by decide +kernel
theorem dX11_goesOn_74 : decode cX11_goesOn 74 = .ok (.bipush 43, 2) := by decide +kernel
theorem dX11_goesOn_76 : decode cX11_goesOn 76 = .ok (.invokevirtual 274, 3) := by decide +kernel
theorem dX11_goesOn_79 : decode cX11_goesOn 79 = .ok (.ifCond .ne 12, 3) := by decide +kernel
theorem dX11_goesOn_82 : decode cX11_goesOn 82 = .ok (.aload_n 0, 1) := by decide +kernel
theorem dX11_goesOn_83 : decode cX11_goesOn 83 = .ok (.bipush 45, 2) := by decide +kernel
theorem dX11_goesOn_85 : decode cX11_goesOn 85 = .ok (.invokevirtual 274, 3) := by decide +kernel
theorem dX11_goesOn_88 : decode cX11_goesOn 88 = .ok (.ifCond .eq 7, 3) := by decide +kernel
theorem dX11_goesOn_91 : decode cX11_goesOn 91 = .ok (.iconst 5, 1) := by decide +kernel
theorem dX11_goesOn_92 : decode cX11_goesOn 92 = .ok (.goto 5, 3) := by decide +kernel
theorem dX11_goesOn_95 : decode cX11_goesOn 95 = .ok (.bipush 6, 2) := by decide +kernel
theorem dX11_goesOn_97 : decode cX11_goesOn 97 = .ok (.invokevirtual 357, 3) := by decide +kernel
theorem dX11_goesOn_100 : decode cX11_goesOn 100 = .ok (.aload_n 0, 1) := by decide +kernel
theorem dX11_goesOn_101 : decode cX11_goesOn 101 = .ok (.aload_n 0, 1) := by decide +kernel
theorem dX11_goesOn_102 : decode cX11_goesOn 102 = .ok (.bipush 43, 2) := by decide +kernel
theorem dX11_goesOn_104 : decode cX11_goesOn 104 = .ok (.invokevirtual 274, 3) := by decide +kernel
theorem dX11_goesOn_107 : decode cX11_goesOn 107 = .ok (.ifCond .eq 8, 3) := by decide +kernel
theorem dX11_goesOn_110 : decode cX11_goesOn 110 = .ok (.bipush 10, 2) := by decide +kernel
theorem dX11_goesOn_112 : decode cX11_goesOn 112 = .ok (.goto 47, 3) := by decide +kernel
theorem dX11_goesOn_115 : decode cX11_goesOn 115 = .ok (.aload_n 0, 1) := by decide +kernel
theorem dX11_goesOn_116 : decode cX11_goesOn 116 = .ok (.bipush 45, 2) := by decide +kernel
theorem dX11_goesOn_118 : decode cX11_goesOn 118 = .ok (.invokevirtual 274, 3) := by decide +kernel
theorem dX11_goesOn_121 : decode cX11_goesOn 121 = .ok (.ifCond .eq 8, 3) := by decide +kernel
theorem dX11_goesOn_124 : decode cX11_goesOn 124 = .ok (.bipush 11, 2) := by decide +kernel
theorem dX11_goesOn_126 : decode cX11_goesOn 126 = .ok (.goto 33, 3) := by decide +kernel
theorem dX11_goesOn_129 : decode cX11_goesOn 129 = .ok (.aload_n 0, 1) := by decide +kernel
theorem dX11_goesOn_130 : decode cX11_goesOn 130 = .ok (.bipush 42, 2) := by decide +kernel
theorem dX11_goesOn_132 : decode cX11_goesOn 132 = .ok (.invokevirtual 274, 3) := by decide +kernel
theorem dX11_goesOn_135 : decode cX11_goesOn 135 = .ok (.ifCond .eq 8, 3) := by decide +kernel
theorem dX11_goesOn_138 : decode cX11_goesOn 138 = .ok (.bipush 12, 2) := by decide +kernel
theorem dX11_goesOn_140 : decode cX11_goesOn 140 = .ok (.goto 19, 3) := by decide +kernel
theorem dX11_goesOn_143 : decode cX11_goesOn 143 = .ok (.aload_n 0, 1) := by decide +kernel
theorem dX11_goesOn_144 : decode cX11_goesOn 144 = .ok (.bipush 47, 2) := by decide +kernel
theorem dX11_goesOn_146 : decode cX11_goesOn 146 = .ok (.invokevirtual 274, 3) := by decide +kernel
theorem dX11_goesOn_149 : decode cX11_goesOn 149 = .ok (.ifCond .eq 8, 3) := by decide +kernel
theorem dX11_goesOn_152 : decode cX11_goesOn 152 = .ok (.bipush 13, 2) := by decide +kernel
theorem dX11_goesOn_154 : decode cX11_goesOn 154 = .ok (.goto 5, 3) := by decide +kernel
theorem dX11_goesOn_157 : decode cX11_goesOn 157 = .ok (.bipush 14, 2) := by decide +kernel
theorem dX11_goesOn_159 : decode cX11_goesOn 159 = .ok (.invokevirtual 360, 3) := by decide +kernel
theorem dX11_goesOn_162 : decode cX11_goesOn 162 = .ok (.aload_n 0, 1) := by decide +kernel
theorem dX11_goesOn_163 : decode cX11_goesOn 163 = .ok (.invokevirtual 277, 3) := by decide +kernel
theorem dX11_goesOn_166 : decode cX11_goesOn 166 = .ok (.aload_n 0, 1) := by decide +kernel
theorem dX11_goesOn_167 : decode cX11_goesOn 167 = .ok (.iconst 0, 1) := by decide +kernel
theorem dX11_goesOn_168 : decode cX11_goesOn 168 = .ok (.putfield 157, 3) := by decide +kernel
theorem dX11_goesOn_171 : decode cX11_goesOn 171 = .ok (.iconst 1, 1) := by decide +kernel
theorem dX11_goesOn_172 : decode cX11_goesOn 172 = .ok (.ireturn, 1) := by decide +kernel
theorem dX11_goesOn_173 : decode cX11_goesOn 173 = .ok (.iload_n 2, 1) := by decide +kernel
theorem dX11_goesOn_174 : decode cX11_goesOn 174 = .ok (.iconst 2, 1) := by decide +kernel
theorem dX11_goesOn_175 : decode cX11_goesOn 175 = .ok (.if_icmp .ge 17, 3) := by decide +kernel
theorem dX11_goesOn_178 : decode cX11_goesOn 178 = .ok (.aload_n 0, 1) := by decide +kernel
theorem dX11_goesOn_179 : decode cX11_goesOn 179 = .ok (.getfield 36, 3) := by decide +kernel
theorem dX11_goesOn_182 : decode cX11_goesOn 182 = .ok (.ifCond .ne 8, 3) := by decide +kernel
theorem dX11_goesOn_185 : decode cX11_goesOn 185 = .ok (.aload_n 0, 1) := by decide +kernel
theorem dX11_goesOn_186 : decode cX11_goesOn 186 = .ok (.iconst 1, 1) := by decide +kernel
theorem dX11_goesOn_187 : decode cX11_goesOn 187 = .ok (.invokevirtual 357, 3) := by decide +kernel
theorem dX11_goesOn_190 : decode cX11_goesOn 190 = .ok (.iconst 0, 1) := by decide +kernel
theorem dX11_goesOn_191 : decode cX11_goesOn 191 = .ok (.ireturn, 1) := by decide +kernel
theorem dX11_goesOn_192 : decode cX11_goesOn 192 = .ok (.iload_n 2, 1) := by decide +kernel
theorem dX11_goesOn_193 : decode cX11_goesOn 193 = .ok (.iconst 3, 1) := by decide +kernel
theorem dX11_goesOn_194 : decode cX11_goesOn 194 = .ok (.if_icmp .ne 53, 3) := by decide +kernel
theorem dX11_goesOn_197 : decode cX11_goesOn 197 = .ok (.aload_n 0, 1) := by decide +kernel
theorem dX11_goesOn_198 : decode cX11_goesOn 198 = .ok (.bipush 44, 2) := by decide +kernel
theorem dX11_goesOn_200 : decode cX11_goesOn 200 = .ok (.invokevirtual 274, 3) := by decide +kernel
theorem dX11_goesOn_203 : decode cX11_goesOn 203 = .ok (.ifCond .ne 12, 3) := by decide +kernel
theorem dX11_goesOn_206 : decode cX11_goesOn 206 = .ok (.aload_n 0, 1) := by decide +kernel
theorem dX11_goesOn_207 : decode cX11_goesOn 207 = .ok (.iconst 1, 1) := by decide +kernel
theorem dX11_goesOn_208 : decode cX11_goesOn 208 = .ok (.aload_n 0, 1) := by decide +kernel
theorem dX11_goesOn_209 : decode cX11_goesOn 209 = .ok (.getfield 23, 3) := by decide +kernel
theorem dX11_goesOn_212 : decode cX11_goesOn 212 = .ok (.invokevirtual 256, 3) := by decide +kernel
theorem dX11_goesOn_215 : decode cX11_goesOn 215 = .ok (.aload_n 0, 1) := by decide +kernel
theorem dX11_goesOn_216 : decode cX11_goesOn 216 = .ok (.getfield 36, 3) := by decide +kernel
theorem dX11_goesOn_219 : decode cX11_goesOn 219 = .ok (.ifCond .le 5, 3) := by decide +kernel
theorem dX11_goesOn_222 : decode cX11_goesOn 222 = .ok (.iconst 0, 1) := by decide +kernel
theorem dX11_goesOn_223 : decode cX11_goesOn 223 = .ok (.ireturn, 1) := by decide +kernel
theorem dX11_goesOn_224 : decode cX11_goesOn 224 = .ok (.aload_n 0, 1) := by decide +kernel
theorem dX11_goesOn_225 : decode cX11_goesOn 225 = .ok (.iconst 1, 1) := by decide +kernel
theorem dX11_goesOn_226 : decode cX11_goesOn 226 = .ok (.invokevirtual 357, 3) := by decide +kernel
theorem dX11_goesOn_229 : decode cX11_goesOn 229 = .ok (.aload_n 0, 1) := by decide +kernel
theorem dX11_goesOn_230 : decode cX11_goesOn 230 = .ok (.getfield 136, 3) := by decide +kernel
theorem dX11_goesOn_233 : decode cX11_goesOn 233 = .ok (.iload_n 1, 1) := by decide +kernel
theorem dX11_goesOn_234 : decode cX11_goesOn 234 = .ok (.iconst 4, 1) := by decide +kernel
theorem dX11_goesOn_235 : decode cX11_goesOn 235 = .ok (.iastore, 1) := by decide +kernel
theorem dX11_goesOn_236 : decode cX11_goesOn 236 = .ok (.aload_n 0, 1) := by decide +kernel
theorem dX11_goesOn_237 : decode cX11_goesOn 237 = .ok (.invokevirtual 277, 3) := by decide +kernel
theorem dX11_goesOn_240 : decode cX11_goesOn 240 = .ok (.aload_n 0, 1) := by decide +kernel
theorem dX11_goesOn_241 : decode cX11_goesOn 241 = .ok (.iconst 0, 1) := by decide +kernel
theorem dX11_goesOn_242 : decode cX11_goesOn 242 = .ok (.putfield 157, 3) := by decide +kernel
theorem dX11_goesOn_245 : decode cX11_goesOn 245 = .ok (.iconst 1, 1) := by decide +kernel
theorem dX11_goesOn_246 : decode cX11_goesOn 246 = .ok (.ireturn, 1) := by decide +kernel
theorem dX11_goesOn_247 : decode cX11_goesOn 247 = .ok (.aload_n 0, 1) := by decide +kernel
theorem dX11_goesOn_248 : decode cX11_goesOn 248 = .ok (.bipush 41, 2) := by decide +kernel
theorem dX11_goesOn_250 : decode cX11_goesOn 250 = .ok (.invokevirtual 274, 3) := by decide +kernel
theorem dX11_goesOn_253 : decode cX11_goesOn 253 = .ok (.ifCond .ne 12, 3) := by decide +kernel
theorem dX11_goesOn_256 : decode cX11_goesOn 256 = .ok (.aload_n 0, 1) := by decide +kernel
theorem dX11_goesOn_257 : decode cX11_goesOn 257 = .ok (.iconst 1, 1) := by decide +kernel
theorem dX11_goesOn_258 : decode cX11_goesOn 258 = .ok (.aload_n 0, 1) := by decide +kernel
theorem dX11_goesOn_259 : decode cX11_goesOn 259 = .ok (.getfield 23, 3) := by decide +kernel
theorem dX11_goesOn_262 : decode cX11_goesOn 262 = .ok (.invokevirtual 256, 3) := by decide +kernel
theorem dX11_goesOn_265 : decode cX11_goesOn 265 = .ok (.aload_n 0, 1) := by decide +kernel
theorem dX11_goesOn_266 : decode cX11_goesOn 266 = .ok (.getfield 36, 3) := by decide +kernel
theorem dX11_goesOn_269 : decode cX11_goesOn 269 = .ok (.ifCond .le 5, 3) := by decide +kernel
theorem dX11_goesOn_272 : decode cX11_goesOn 272 = .ok (.iconst 0, 1) := by decide +kernel
theorem dX11_goesOn_273 : decode cX11_goesOn 273 = .ok (.ireturn, 1) := by decide +kernel
theorem dX11_goesOn_274 : decode cX11_goesOn 274 = .ok (.aload_n 0, 1) := by decide +kernel
theorem dX11_goesOn_275 : decode cX11_goesOn 275 = .ok (.iconst 1, 1) := by decide +kernel
theorem dX11_goesOn_276 : decode cX11_goesOn 276 = .ok (.invokevirtual 357, 3) := by decide +kernel
theorem dX11_goesOn_279 : decode cX11_goesOn 279 = .ok (.aload_n 0, 1) := by decide +kernel
theorem dX11_goesOn_280 : decode cX11_goesOn 280 = .ok (.dup, 1) := by decide +kernel
theorem dX11_goesOn_281 : decode cX11_goesOn 281 = .ok (.getfield 145, 3) := by decide +kernel
theorem dX11_goesOn_284 : decode cX11_goesOn 284 = .ok (.iconst 1, 1) := by decide +kernel
theorem dX11_goesOn_285 : decode cX11_goesOn 285 = .ok (.isub, 1) := by decide +kernel
theorem dX11_goesOn_286 : decode cX11_goesOn 286 = .ok (.putfield 145, 3) := by decide +kernel
theorem dX11_goesOn_289 : decode cX11_goesOn 289 = .ok (.aload_n 0, 1) := by decide +kernel
theorem dX11_goesOn_290 : decode cX11_goesOn 290 = .ok (.dup, 1) := by decide +kernel
theorem dX11_goesOn_291 : decode cX11_goesOn 291 = .ok (.getfield 148, 3) := by decide +kernel
theorem dX11_goesOn_294 : decode cX11_goesOn 294 = .ok (.iconst 1, 1) := by decide +kernel
theorem dX11_goesOn_295 : decode cX11_goesOn 295 = .ok (.isub, 1) := by decide +kernel
theorem dX11_goesOn_296 : decode cX11_goesOn 296 = .ok (.putfield 148, 3) := by decide +kernel
theorem dX11_goesOn_299 : decode cX11_goesOn 299 = .ok (.iload_n 2, 1) := by decide +kernel
theorem dX11_goesOn_300 : decode cX11_goesOn 300 = .ok (.iconst 4, 1) := by decide +kernel
theorem dX11_goesOn_301 : decode cX11_goesOn 301 = .ok (.if_icmp .ne 14, 3) := by decide +kernel
theorem dX11_goesOn_304 : decode cX11_goesOn 304 = .ok (.aload_n 0, 1) := by decide +kernel
theorem dX11_goesOn_305 : decode cX11_goesOn 305 = .ok (.aload_n 0, 1) := by decide +kernel
theorem dX11_goesOn_306 : decode cX11_goesOn 306 = .ok (.getfield 139, 3) := by decide +kernel
theorem dX11_goesOn_309 : decode cX11_goesOn 309 = .ok (.iload_n 1, 1) := by decide +kernel
theorem dX11_goesOn_310 : decode cX11_goesOn 310 = .ok (.iaload, 1) := by decide +kernel
theorem dX11_goesOn_311 : decode cX11_goesOn 311 = .ok (.iconst 0, 1) := by decide +kernel
theorem dX11_goesOn_312 : decode cX11_goesOn 312 = .ok (.invokevirtual 345, 3) := by decide +kernel
theorem dX11_goesOn_315 : decode cX11_goesOn 315 = .ok (.aload_n 0, 1) := by decide +kernel
theorem dX11_goesOn_316 : decode cX11_goesOn 316 = .ok (.invokevirtual 277, 3) := by decide +kernel
theorem dX11_goesOn_319 : decode cX11_goesOn 319 = .ok (.iconst 1, 1) := by decide +kernel
theorem dX11_goesOn_320 : decode cX11_goesOn 320 = .ok (.ireturn, 1) := by decide +kernel
set_option maxRecDepth 100000 in
set_option maxHeartbeats 4000000 in
theorem X11_goesOn_J159_ok {g : Gm} {w : Wd} (C : Cx g w RX11 cX11_goesOn 3 (some .boolean)) {lv : Nat} (hlv : 2 < lv) {N : Nat} {l0 : Nat} {s0 : Nat} {s1 : Int} {m : Mem} {out : (Int × Mem)} (h : X11_goesOn_J159 N l0 s0 s1 m = some out) : Jd g w 3 (rmL lv 0 0) (Qm g w (some (vI out.1)) out.2) 159 [some (vR l0), none, none] [vI s1, vR s0] 312 m 0 0 := by
  unfold X11_goesOn_J159 at h
  obtain ⟨p13, ep13, h⟩ := bind_some h
  have qp13 := X11_holdsBack_ct ep13
  refine j_cVV C dX11_goesOn_159 vl_X11_360 CF11 rfl qp13.1 qp13.2 (by omega) rfl rfl (Nat.le_of_ble_eq_true rfl) ?_
  refine j_aload_n C dX11_goesOn_162 rfl ?_
  obtain ⟨p14, ep14, h⟩ := bind_some h
  have qp14 := X11_ahead_ct ep14
  refine j_cVV C dX11_goesOn_163 vl_X11_277 CF11 rfl qp14.1 qp14.2 (by omega) rfl rfl (Nat.le_of_ble_eq_true rfl) ?_
  refine j_aload_n C dX11_goesOn_166 rfl ?_
  refine j_iconst C dX11_goesOn_167 rfl ?_
  refine j_putZ C dX11_goesOn_168 CF11 (by decide) fl_X11_157 rfl rfl rfl rfl h (fun m15 h => ?_)
  refine j_iconst C dX11_goesOn_171 rfl ?_
  obtain ⟨r16, er16, h⟩ := bind_some h
  have e := Option.some.inj h
  subst e
  exact j_rz C dX11_goesOn_172 rfl (retZ_some er16) rfl
set_option maxRecDepth 100000 in
set_option maxHeartbeats 4000000 in
theorem X11_goesOn_J97_ok {g : Gm} {w : Wd} (C : Cx g w RX11 cX11_goesOn 3 (some .boolean)) {lv : Nat} (hlv : 2 < lv) {N : Nat} {l0 : Nat} {s0 : Nat} {s1 : Int} {m : Mem} {out : (Int × Mem)} (h : X11_goesOn_J97 N l0 s0 s1 m = some out) : Jd g w 3 (rmL lv 0 0) (Qm g w (some (vI out.1)) out.2) 97 [some (vR l0), none, none] [vI s1, vR s0] 312 m 0 0 := by
  unfold X11_goesOn_J97 at h
  obtain ⟨p8, ep8, h⟩ := bind_some h
  have qp8 := X11_joins_ct ep8
  refine j_cVV C dX11_goesOn_97 vl_X11_357 CF11 rfl qp8.1 qp8.2 (by omega) rfl rfl (Nat.le_of_ble_eq_true rfl) ?_
  refine j_aload_n C dX11_goesOn_100 rfl ?_
  refine j_aload_n C dX11_goesOn_101 rfl ?_
  refine j_bipush C dX11_goesOn_102 rfl ?_
  obtain ⟨p9, ep9, h⟩ := bind_some h
  have qp9 := X11_isSign_ct ep9
  refine j_cVI C dX11_goesOn_104 vl_X11_274 CF11 rfl qp9.1 qp9.2 (by omega) rfl rfl (Nat.le_of_ble_eq_true rfl) ?_
  refine j_if_eq C 115 dX11_goesOn_107 rfl h (fun c20 h => ?_) (fun c20 h => ?_)
  · refine j_aload_n C dX11_goesOn_115 rfl ?_
    refine j_bipush C dX11_goesOn_116 rfl ?_
    obtain ⟨p10, ep10, h⟩ := bind_some h
    have qp10 := X11_isSign_ct ep10
    refine j_cVI C dX11_goesOn_118 vl_X11_274 CF11 rfl qp10.1 qp10.2 (by omega) rfl rfl (Nat.le_of_ble_eq_true rfl) ?_
    refine j_if_eq C 129 dX11_goesOn_121 rfl h (fun c19 h => ?_) (fun c19 h => ?_)
    · refine j_aload_n C dX11_goesOn_129 rfl ?_
      refine j_bipush C dX11_goesOn_130 rfl ?_
      obtain ⟨p11, ep11, h⟩ := bind_some h
      have qp11 := X11_isSign_ct ep11
      refine j_cVI C dX11_goesOn_132 vl_X11_274 CF11 rfl qp11.1 qp11.2 (by omega) rfl rfl (Nat.le_of_ble_eq_true rfl) ?_
      refine j_if_eq C 143 dX11_goesOn_135 rfl h (fun c18 h => ?_) (fun c18 h => ?_)
      · refine j_aload_n C dX11_goesOn_143 rfl ?_
        refine j_bipush C dX11_goesOn_144 rfl ?_
        obtain ⟨p12, ep12, h⟩ := bind_some h
        have qp12 := X11_isSign_ct ep12
        refine j_cVI C dX11_goesOn_146 vl_X11_274 CF11 rfl qp12.1 qp12.2 (by omega) rfl rfl (Nat.le_of_ble_eq_true rfl) ?_
        refine j_if_eq C 157 dX11_goesOn_149 rfl h (fun c17 h => ?_) (fun c17 h => ?_)
        · refine j_bipush C dX11_goesOn_157 rfl ?_
          exact X11_goesOn_J159_ok C hlv h
        · refine j_bipush C dX11_goesOn_152 rfl ?_
          refine j_goto C 159 dX11_goesOn_154 rfl ?_
          exact X11_goesOn_J159_ok C hlv h
      · refine j_bipush C dX11_goesOn_138 rfl ?_
        refine j_goto C 159 dX11_goesOn_140 rfl ?_
        exact X11_goesOn_J159_ok C hlv h
    · refine j_bipush C dX11_goesOn_124 rfl ?_
      refine j_goto C 159 dX11_goesOn_126 rfl ?_
      exact X11_goesOn_J159_ok C hlv h
  · refine j_bipush C dX11_goesOn_110 rfl ?_
    refine j_goto C 159 dX11_goesOn_112 rfl ?_
    exact X11_goesOn_J159_ok C hlv h
set_option maxRecDepth 100000 in
set_option maxHeartbeats 4000000 in
theorem X11_goesOn_J91_ok {g : Gm} {w : Wd} (C : Cx g w RX11 cX11_goesOn 3 (some .boolean)) {lv : Nat} (hlv : 2 < lv) {N : Nat} {l0 : Nat} {s0 : Nat} {m : Mem} {out : (Int × Mem)} (h : X11_goesOn_J91 N l0 s0 m = some out) : Jd g w 3 (rmL lv 0 0) (Qm g w (some (vI out.1)) out.2) 91 [some (vR l0), none, none] [vR s0] 312 m 0 0 := by
  unfold X11_goesOn_J91 at h
  refine j_iconst C dX11_goesOn_91 rfl ?_
  refine j_goto C 97 dX11_goesOn_92 rfl ?_
  exact X11_goesOn_J97_ok C hlv h
set_option maxRecDepth 100000 in
set_option maxHeartbeats 4000000 in
theorem X11_goesOn_J72_ok {g : Gm} {w : Wd} (C : Cx g w RX11 cX11_goesOn 3 (some .boolean)) {lv : Nat} (hlv : 2 < lv) {N : Nat} {l0 : Nat} {m : Mem} {out : (Int × Mem)} (h : X11_goesOn_J72 N l0 m = some out) : Jd g w 3 (rmL lv 0 0) (Qm g w (some (vI out.1)) out.2) 72 [some (vR l0), none, none] [] 312 m 0 0 := by
  unfold X11_goesOn_J72 at h
  refine j_aload_n C dX11_goesOn_72 rfl ?_
  refine j_aload_n C dX11_goesOn_73 rfl ?_
  refine j_bipush C dX11_goesOn_74 rfl ?_
  obtain ⟨p7, ep7, h⟩ := bind_some h
  have qp7 := X11_isSign_ct ep7
  refine j_cVI C dX11_goesOn_76 vl_X11_274 CF11 rfl qp7.1 qp7.2 (by omega) rfl rfl (Nat.le_of_ble_eq_true rfl) ?_
  refine j_if_ne C 91 dX11_goesOn_79 rfl h (fun c23 h => ?_) (fun c23 h => ?_)
  · exact X11_goesOn_J91_ok C hlv h
  · refine j_aload_n C dX11_goesOn_82 rfl ?_
    refine j_bipush C dX11_goesOn_83 rfl ?_
    obtain ⟨p21, ep21, h⟩ := bind_some h
    have qp21 := X11_isSign_ct ep21
    refine j_cVI C dX11_goesOn_85 vl_X11_274 CF11 rfl qp21.1 qp21.2 (by omega) rfl rfl (Nat.le_of_ble_eq_true rfl) ?_
    refine j_if_eq C 95 dX11_goesOn_88 rfl h (fun c22 h => ?_) (fun c22 h => ?_)
    · refine j_bipush C dX11_goesOn_95 rfl ?_
      exact X11_goesOn_J97_ok C hlv h
    · exact X11_goesOn_J91_ok C hlv h
set_option maxRecDepth 100000 in
set_option maxHeartbeats 4000000 in
theorem X11_goesOn_J315_ok {g : Gm} {w : Wd} (C : Cx g w RX11 cX11_goesOn 3 (some .boolean)) {lv : Nat} (hlv : 2 < lv) {N : Nat} {l0 : Nat} {m : Mem} {out : (Int × Mem)} (h : X11_goesOn_J315 N l0 m = some out) : Jd g w 3 (rmL lv 0 0) (Qm g w (some (vI out.1)) out.2) 315 [some (vR l0), none, none] [] 312 m 0 0 := by
  unfold X11_goesOn_J315 at h
  refine j_aload_n C dX11_goesOn_315 rfl ?_
  obtain ⟨p35, ep35, h⟩ := bind_some h
  have qp35 := X11_ahead_ct ep35
  refine j_cVV C dX11_goesOn_316 vl_X11_277 CF11 rfl qp35.1 qp35.2 (by omega) rfl rfl (Nat.le_of_ble_eq_true rfl) ?_
  refine j_iconst C dX11_goesOn_319 rfl ?_
  obtain ⟨r36, er36, h⟩ := bind_some h
  have e := Option.some.inj h
  subst e
  exact j_rz C dX11_goesOn_320 rfl (retZ_some er36) rfl
set_option maxRecDepth 100000 in
set_option maxHeartbeats 4000000 in
theorem X11_goesOn_J265_ok {g : Gm} {w : Wd} (C : Cx g w RX11 cX11_goesOn 3 (some .boolean)) {lv : Nat} (hlv : 2 < lv) {N : Nat} {l0 : Nat} {l1 : Int} {l2 : Int} {m : Mem} {out : (Int × Mem)} (h : X11_goesOn_J265 N l0 l1 l2 m = some out) : Jd g w 3 (rmL lv 0 0) (Qm g w (some (vI out.1)) out.2) 265 [some (vR l0), some (vI l1), some (vI l2)] [] 312 m 0 0 := by
  unfold X11_goesOn_J265 at h
  refine j_aload_n C dX11_goesOn_265 rfl ?_
  refine j_getI C dX11_goesOn_266 CF11 (by decide) fl_X11_36 rfl rfl h (fun t29 h => ?_)
  refine j_if_le C 274 dX11_goesOn_269 rfl h (fun c42 h => ?_) (fun c42 h => ?_)
  · refine j_aload_n C dX11_goesOn_274 rfl ?_
    refine j_iconst C dX11_goesOn_275 rfl ?_
    obtain ⟨p30, ep30, h⟩ := bind_some h
    have qp30 := X11_joins_ct ep30
    refine j_cVV C dX11_goesOn_276 vl_X11_357 CF11 rfl qp30.1 qp30.2 (by omega) rfl rfl (Nat.le_of_ble_eq_true rfl) ?_
    refine j_aload_n C dX11_goesOn_279 rfl ?_
    refine j_dup C dX11_goesOn_280 rfl ?_
    refine j_getI C dX11_goesOn_281 CF11 (by decide) fl_X11_145 rfl rfl h (fun t31 h => ?_)
    refine j_iconst C dX11_goesOn_284 rfl ?_
    refine j_isub C dX11_goesOn_285 ?_
    refine j_putI C dX11_goesOn_286 CF11 (by decide) fl_X11_145 rfl rfl rfl rfl h (fun m32 h => ?_)
    refine j_aload_n C dX11_goesOn_289 rfl ?_
    refine j_dup C dX11_goesOn_290 rfl ?_
    refine j_getI C dX11_goesOn_291 CF11 (by decide) fl_X11_148 rfl rfl h (fun t33 h => ?_)
    refine j_iconst C dX11_goesOn_294 rfl ?_
    refine j_isub C dX11_goesOn_295 ?_
    refine j_putI C dX11_goesOn_296 CF11 (by decide) fl_X11_148 rfl rfl rfl rfl h (fun m34 h => ?_)
    refine j_iload_n C dX11_goesOn_299 rfl ?_
    refine j_iconst C dX11_goesOn_300 rfl ?_
    refine j_icmp_ne C 315 dX11_goesOn_301 rfl h (fun c40 h => ?_) (fun c40 h => ?_)
    · refine j_mask [true, false, false] (ls' := [some (vR _), none, none]) rfl ?_
      exact X11_goesOn_J315_ok C hlv h
    · refine j_aload_n C dX11_goesOn_304 rfl ?_
      refine j_aload_n C dX11_goesOn_305 rfl ?_
      refine j_getR C dX11_goesOn_306 CF11 (by decide) fl_X11_139 rfl rfl h (fun t37 h => ?_)
      refine j_iload_n C dX11_goesOn_309 rfl ?_
      refine j_iald C dX11_goesOn_310 rfl h (fun t38 h => ?_)
      refine j_iconst C dX11_goesOn_311 rfl ?_
      obtain ⟨p39, ep39, h⟩ := bind_some h
      have qp39 := X11_add_ct ep39
      refine j_cVV C dX11_goesOn_312 vl_X11_345 CF11 rfl qp39.1 qp39.2 (by omega) rfl rfl (Nat.le_of_ble_eq_true rfl) ?_
      refine j_mask [true, false, false] (ls' := [some (vR _), none, none]) rfl ?_
      exact X11_goesOn_J315_ok C hlv h
  · refine j_iconst C dX11_goesOn_272 rfl ?_
    obtain ⟨r41, er41, h⟩ := bind_some h
    have e := Option.some.inj h
    subst e
    exact j_rz C dX11_goesOn_273 rfl (retZ_some er41) rfl
set_option maxRecDepth 100000 in
set_option maxHeartbeats 4000000 in
theorem X11_goesOn_J215_ok {g : Gm} {w : Wd} (C : Cx g w RX11 cX11_goesOn 3 (some .boolean)) {lv : Nat} (hlv : 2 < lv) {N : Nat} {l0 : Nat} {l1 : Int} {m : Mem} {out : (Int × Mem)} (h : X11_goesOn_J215 N l0 l1 m = some out) : Jd g w 3 (rmL lv 0 0) (Qm g w (some (vI out.1)) out.2) 215 [some (vR l0), some (vI l1), none] [] 312 m 0 0 := by
  unfold X11_goesOn_J215 at h
  refine j_aload_n C dX11_goesOn_215 rfl ?_
  refine j_getI C dX11_goesOn_216 CF11 (by decide) fl_X11_36 rfl rfl h (fun t47 h => ?_)
  refine j_if_le C 224 dX11_goesOn_219 rfl h (fun c55 h => ?_) (fun c55 h => ?_)
  · refine j_aload_n C dX11_goesOn_224 rfl ?_
    refine j_iconst C dX11_goesOn_225 rfl ?_
    obtain ⟨p48, ep48, h⟩ := bind_some h
    have qp48 := X11_joins_ct ep48
    refine j_cVV C dX11_goesOn_226 vl_X11_357 CF11 rfl qp48.1 qp48.2 (by omega) rfl rfl (Nat.le_of_ble_eq_true rfl) ?_
    refine j_aload_n C dX11_goesOn_229 rfl ?_
    refine j_getR C dX11_goesOn_230 CF11 (by decide) fl_X11_136 rfl rfl h (fun t49 h => ?_)
    refine j_iload_n C dX11_goesOn_233 rfl ?_
    refine j_iconst C dX11_goesOn_234 rfl ?_
    refine j_iast C dX11_goesOn_235 rfl h (fun m50 h => ?_)
    refine j_aload_n C dX11_goesOn_236 rfl ?_
    obtain ⟨p51, ep51, h⟩ := bind_some h
    have qp51 := X11_ahead_ct ep51
    refine j_cVV C dX11_goesOn_237 vl_X11_277 CF11 rfl qp51.1 qp51.2 (by omega) rfl rfl (Nat.le_of_ble_eq_true rfl) ?_
    refine j_aload_n C dX11_goesOn_240 rfl ?_
    refine j_iconst C dX11_goesOn_241 rfl ?_
    refine j_putZ C dX11_goesOn_242 CF11 (by decide) fl_X11_157 rfl rfl rfl rfl h (fun m52 h => ?_)
    refine j_iconst C dX11_goesOn_245 rfl ?_
    obtain ⟨r53, er53, h⟩ := bind_some h
    have e := Option.some.inj h
    subst e
    exact j_rz C dX11_goesOn_246 rfl (retZ_some er53) rfl
  · refine j_iconst C dX11_goesOn_222 rfl ?_
    obtain ⟨r54, er54, h⟩ := bind_some h
    have e := Option.some.inj h
    subst e
    exact j_rz C dX11_goesOn_223 rfl (retZ_some er54) rfl
set_option maxRecDepth 100000 in
set_option maxHeartbeats 4000000 in
theorem X11_goesOn_ct {N : Nat} {l0 : Nat} {m : Mem} {out : (Int × Mem)} (h : X11_goesOn N l0 m = some out) : shK l0 = 11 + 10 ∧ CT yX11_goesOn cX11_goesOn 3 (some .boolean) 3 0 0 [vR l0] 312 m (some (vI out.1)) 312 out.2 := by
  unfold X11_goesOn at h
  obtain ⟨hK, h⟩ := ite_some h
  have hlv : 2 < 3 := by decide
  refine ⟨hK, CT.of (by decide +kernel) rfl (Nat.le_of_ble_eq_true rfl) (ls := [some (vR l0), none, none]) rfl fun g w C _ => ?_⟩
  refine j_aload_n C dX11_goesOn_0 rfl ?_
  obtain ⟨p1, ep1, h⟩ := bind_some h
  have qp1 := X11_lex_ct ep1
  refine j_cVV C dX11_goesOn_1 vl_X11_271 CF11 rfl qp1.1 qp1.2 (by omega) rfl rfl (Nat.le_of_ble_eq_true rfl) ?_
  refine j_aload_n C dX11_goesOn_4 rfl ?_
  refine j_getI C dX11_goesOn_5 CF11 (by decide) fl_X11_36 rfl rfl h (fun t2 h => ?_)
  refine j_if_le C 13 dX11_goesOn_8 rfl h (fun c72 h => ?_) (fun c72 h => ?_)
  · refine j_aload_n C dX11_goesOn_13 rfl ?_
    refine j_getI C dX11_goesOn_14 CF11 (by decide) fl_X11_145 rfl rfl h (fun t3 h => ?_)
    refine j_iconst C dX11_goesOn_17 rfl ?_
    refine j_isub C dX11_goesOn_18 ?_
    refine j_istore_n (ls' := [some (vR _), some (vI _), none]) C dX11_goesOn_19 (by decide) rfl ?_
    refine j_aload_n C dX11_goesOn_20 rfl ?_
    refine j_getR C dX11_goesOn_21 CF11 (by decide) fl_X11_136 rfl rfl h (fun t4 h => ?_)
    refine j_iload_n C dX11_goesOn_24 rfl ?_
    refine j_iald C dX11_goesOn_25 rfl h (fun t5 h => ?_)
    refine j_istore_n (ls' := [some (vR _), some (vI _), some (vI _)]) C dX11_goesOn_26 (by decide) rfl ?_
    refine j_aload_n C dX11_goesOn_27 rfl ?_
    refine j_bipush C dX11_goesOn_28 rfl ?_
    obtain ⟨p6, ep6, h⟩ := bind_some h
    have qp6 := X11_isSign_ct ep6
    refine j_cVI C dX11_goesOn_30 vl_X11_274 CF11 rfl qp6.1 qp6.2 (by omega) rfl rfl (Nat.le_of_ble_eq_true rfl) ?_
    refine j_if_ne C 72 dX11_goesOn_33 rfl h (fun c70 h => ?_) (fun c70 h => ?_)
    · refine j_mask [true, false, false] (ls' := [some (vR _), none, none]) rfl ?_
      exact X11_goesOn_J72_ok C hlv h
    · refine j_aload_n C dX11_goesOn_36 rfl ?_
      refine j_bipush C dX11_goesOn_37 rfl ?_
      obtain ⟨p24, ep24, h⟩ := bind_some h
      have qp24 := X11_isSign_ct ep24
      refine j_cVI C dX11_goesOn_39 vl_X11_274 CF11 rfl qp24.1 qp24.2 (by omega) rfl rfl (Nat.le_of_ble_eq_true rfl) ?_
      refine j_if_ne C 72 dX11_goesOn_42 rfl h (fun c69 h => ?_) (fun c69 h => ?_)
      · refine j_mask [true, false, false] (ls' := [some (vR _), none, none]) rfl ?_
        exact X11_goesOn_J72_ok C hlv h
      · refine j_aload_n C dX11_goesOn_45 rfl ?_
        refine j_bipush C dX11_goesOn_46 rfl ?_
        obtain ⟨p25, ep25, h⟩ := bind_some h
        have qp25 := X11_isSign_ct ep25
        refine j_cVI C dX11_goesOn_48 vl_X11_274 CF11 rfl qp25.1 qp25.2 (by omega) rfl rfl (Nat.le_of_ble_eq_true rfl) ?_
        refine j_if_ne C 72 dX11_goesOn_51 rfl h (fun c68 h => ?_) (fun c68 h => ?_)
        · refine j_mask [true, false, false] (ls' := [some (vR _), none, none]) rfl ?_
          exact X11_goesOn_J72_ok C hlv h
        · refine j_aload_n C dX11_goesOn_54 rfl ?_
          refine j_bipush C dX11_goesOn_55 rfl ?_
          obtain ⟨p26, ep26, h⟩ := bind_some h
          have qp26 := X11_isSign_ct ep26
          refine j_cVI C dX11_goesOn_57 vl_X11_274 CF11 rfl qp26.1 qp26.2 (by omega) rfl rfl (Nat.le_of_ble_eq_true rfl) ?_
          refine j_if_ne C 72 dX11_goesOn_60 rfl h (fun c67 h => ?_) (fun c67 h => ?_)
          · refine j_mask [true, false, false] (ls' := [some (vR _), none, none]) rfl ?_
            exact X11_goesOn_J72_ok C hlv h
          · refine j_aload_n C dX11_goesOn_63 rfl ?_
            refine j_bipush C dX11_goesOn_64 rfl ?_
            obtain ⟨p27, ep27, h⟩ := bind_some h
            have qp27 := X11_isSign_ct ep27
            refine j_cVI C dX11_goesOn_66 vl_X11_274 CF11 rfl qp27.1 qp27.2 (by omega) rfl rfl (Nat.le_of_ble_eq_true rfl) ?_
            refine j_if_eq C 173 dX11_goesOn_69 rfl h (fun c66 h => ?_) (fun c66 h => ?_)
            · refine j_iload_n C dX11_goesOn_173 rfl ?_
              refine j_iconst C dX11_goesOn_174 rfl ?_
              refine j_icmp_ge C 192 dX11_goesOn_175 rfl h (fun c65 h => ?_) (fun c65 h => ?_)
              · refine j_iload_n C dX11_goesOn_192 rfl ?_
                refine j_iconst C dX11_goesOn_193 rfl ?_
                refine j_icmp_ne C 247 dX11_goesOn_194 rfl h (fun c59 h => ?_) (fun c59 h => ?_)
                · refine j_aload_n C dX11_goesOn_247 rfl ?_
                  refine j_bipush C dX11_goesOn_248 rfl ?_
                  obtain ⟨p28, ep28, h⟩ := bind_some h
                  have qp28 := X11_isSign_ct ep28
                  refine j_cVI C dX11_goesOn_250 vl_X11_274 CF11 rfl qp28.1 qp28.2 (by omega) rfl rfl (Nat.le_of_ble_eq_true rfl) ?_
                  refine j_if_ne C 265 dX11_goesOn_253 rfl h (fun c45 h => ?_) (fun c45 h => ?_)
                  · exact X11_goesOn_J265_ok C hlv h
                  · refine j_aload_n C dX11_goesOn_256 rfl ?_
                    refine j_iconst C dX11_goesOn_257 rfl ?_
                    refine j_aload_n C dX11_goesOn_258 rfl ?_
                    refine j_getI C dX11_goesOn_259 CF11 (by decide) fl_X11_23 rfl rfl h (fun t43 h => ?_)
                    obtain ⟨p44, ep44, h⟩ := bind_some h
                    have qp44 := X11_blame_ct ep44
                    refine j_cVV C dX11_goesOn_262 vl_X11_256 CF11 rfl qp44.1 qp44.2 (by omega) rfl rfl (Nat.le_of_ble_eq_true rfl) ?_
                    exact X11_goesOn_J265_ok C hlv h
                · refine j_aload_n C dX11_goesOn_197 rfl ?_
                  refine j_bipush C dX11_goesOn_198 rfl ?_
                  obtain ⟨p46, ep46, h⟩ := bind_some h
                  have qp46 := X11_isSign_ct ep46
                  refine j_cVI C dX11_goesOn_200 vl_X11_274 CF11 rfl qp46.1 qp46.2 (by omega) rfl rfl (Nat.le_of_ble_eq_true rfl) ?_
                  refine j_if_ne C 215 dX11_goesOn_203 rfl h (fun c58 h => ?_) (fun c58 h => ?_)
                  · refine j_mask [true, true, false] (ls' := [some (vR _), some (vI _), none]) rfl ?_
                    exact X11_goesOn_J215_ok C hlv h
                  · refine j_aload_n C dX11_goesOn_206 rfl ?_
                    refine j_iconst C dX11_goesOn_207 rfl ?_
                    refine j_aload_n C dX11_goesOn_208 rfl ?_
                    refine j_getI C dX11_goesOn_209 CF11 (by decide) fl_X11_23 rfl rfl h (fun t56 h => ?_)
                    obtain ⟨p57, ep57, h⟩ := bind_some h
                    have qp57 := X11_blame_ct ep57
                    refine j_cVV C dX11_goesOn_212 vl_X11_256 CF11 rfl qp57.1 qp57.2 (by omega) rfl rfl (Nat.le_of_ble_eq_true rfl) ?_
                    refine j_mask [true, true, false] (ls' := [some (vR _), some (vI _), none]) rfl ?_
                    exact X11_goesOn_J215_ok C hlv h
              · refine j_aload_n C dX11_goesOn_178 rfl ?_
                refine j_getI C dX11_goesOn_179 CF11 (by decide) fl_X11_36 rfl rfl h (fun t60 h => ?_)
                refine j_if_ne C 190 dX11_goesOn_182 rfl h (fun c64 h => ?_) (fun c64 h => ?_)
                · refine j_iconst C dX11_goesOn_190 rfl ?_
                  obtain ⟨r61, er61, h⟩ := bind_some h
                  have e := Option.some.inj h
                  subst e
                  exact j_rz C dX11_goesOn_191 rfl (retZ_some er61) rfl
                · refine j_aload_n C dX11_goesOn_185 rfl ?_
                  refine j_iconst C dX11_goesOn_186 rfl ?_
                  obtain ⟨p62, ep62, h⟩ := bind_some h
                  have qp62 := X11_joins_ct ep62
                  refine j_cVV C dX11_goesOn_187 vl_X11_357 CF11 rfl qp62.1 qp62.2 (by omega) rfl rfl (Nat.le_of_ble_eq_true rfl) ?_
                  refine j_iconst C dX11_goesOn_190 rfl ?_
                  obtain ⟨r63, er63, h⟩ := bind_some h
                  have e := Option.some.inj h
                  subst e
                  exact j_rz C dX11_goesOn_191 rfl (retZ_some er63) rfl
            · refine j_mask [true, false, false] (ls' := [some (vR _), none, none]) rfl ?_
              exact X11_goesOn_J72_ok C hlv h
  · refine j_iconst C dX11_goesOn_11 rfl ?_
    obtain ⟨r71, er71, h⟩ := bind_some h
    have e := Option.some.inj h
    subst e
    exact j_rz C dX11_goesOn_12 rfl (retZ_some er71) rfl
theorem dX11_reads_0 : decode cX11_reads 0 = .ok (.aload_n 0, 1) := by decide +kernel
theorem dX11_reads_1 : decode cX11_reads 1 = .ok (.getfield 36, 3) := by decide +kernel
theorem dX11_reads_4 : decode cX11_reads 4 = .ok (.ifCond .le 4, 3) := by decide +kernel
theorem dX11_reads_7 : decode cX11_reads 7 = .ok (.return_, 1) := by decide +kernel
theorem dX11_reads_8 : decode cX11_reads 8 = .ok (.aload_n 0, 1) := by decide +kernel
theorem dX11_reads_9 : decode cX11_reads 9 = .ok (.iconst 0, 1) := by decide +kernel
theorem dX11_reads_10 : decode cX11_reads 10 = .ok (.putfield 145, 3) := by decide +kernel
theorem dX11_reads_13 : decode cX11_reads 13 = .ok (.aload_n 0, 1) := by decide +kernel
theorem dX11_reads_14 : decode cX11_reads 14 = .ok (.iconst 0, 1) := by decide +kernel
theorem dX11_reads_15 : decode cX11_reads 15 = .ok (.putfield 148, 3) := by decide +kernel
theorem dX11_reads_18 : decode cX11_reads 18 = .ok (.aload_n 0, 1) := by decide +kernel
theorem dX11_reads_19 : decode cX11_reads 19 = .ok (.iconst 0, 1) := by decide +kernel
theorem dX11_reads_20 : decode cX11_reads 20 = .ok (.putfield 154, 3) := by decide +kernel
theorem dX11_reads_23 : decode cX11_reads 23 = .ok (.aload_n 0, 1) := by decide +kernel
theorem dX11_reads_24 : decode cX11_reads 24 = .ok (.iconst 0, 1) := by decide +kernel
theorem dX11_reads_25 : decode cX11_reads 25 = .ok (.putfield 157, 3) := by decide +kernel
theorem dX11_reads_28 : decode cX11_reads 28 = .ok (.aload_n 0, 1) := by decide +kernel
theorem dX11_reads_29 : decode cX11_reads 29 = .ok (.iconst 0, 1) := by decide +kernel
theorem dX11_reads_30 : decode cX11_reads 30 = .ok (.invokevirtual 348, 3) := by decide +kernel
theorem dX11_reads_33 : decode cX11_reads 33 = .ok (.iconst 1, 1) := by decide +kernel
theorem dX11_reads_34 : decode cX11_reads 34 = .ok (.istore_n 1, 1) := by decide +kernel
theorem dX11_reads_35 : decode cX11_reads 35 = .ok (.iload_n 1, 1) := by decide +kernel
theorem dX11_reads_36 : decode cX11_reads 36 = .ok (.ifCond .eq 46, 3) := by decide +kernel
theorem dX11_reads_39 : decode cX11_reads 39 = .ok (.aload_n 0, 1) := by decide +kernel
theorem dX11_reads_40 : decode cX11_reads 40 = .ok (.getfield 157, 3) := by decide +kernel
theorem dX11_reads_43 : decode cX11_reads 43 = .ok (.ifCond .ne 14, 3) := by decide +kernel
theorem dX11_reads_46 : decode cX11_reads 46 = .ok (.aload_n 0, 1) := by decide +kernel
theorem dX11_reads_47 : decode cX11_reads 47 = .ok (.aload_n 0, 1) := by decide +kernel
theorem dX11_reads_48 : decode cX11_reads 48 = .ok (.invokevirtual 363, 3) := by decide +kernel
theorem dX11_reads_51 : decode cX11_reads 51 = .ok (.putfield 157, 3) := by decide +kernel
theorem dX11_reads_54 : decode cX11_reads 54 = .ok (.goto 8, 3) := by decide +kernel
theorem dX11_reads_57 : decode cX11_reads 57 = .ok (.aload_n 0, 1) := by decide +kernel
theorem dX11_reads_58 : decode cX11_reads 58 = .ok (.invokevirtual 366, 3) := by decide +kernel
theorem dX11_reads_61 : decode cX11_reads 61 = .ok (.istore_n 1, 1) := by decide +kernel
theorem dX11_reads_62 : decode cX11_reads 62 = .ok (.iload_n 1, 1) := by decide +kernel
theorem dX11_reads_63 : decode cX11_reads 63 = .ok (.ifCond .eq 14, 3) := by decide +kernel
theorem dX11_reads_66 : decode cX11_reads 66 = .ok (.aload_n 0, 1) := by decide +kernel
theorem dX11_reads_67 : decode cX11_reads 67 = .ok (.getfield 36, 3) := by decide +kernel
theorem dX11_reads_70 : decode cX11_reads 70 = .ok (.ifCond .ne 7, 3) := by decide +kernel
theorem dX11_reads_73 : decode cX11_reads 73 = .ok (.iconst 1, 1) := by decide +kernel
theorem dX11_reads_74 : decode cX11_reads 74 = .ok (.goto 4, 3) := by decide +kernel
theorem dX11_reads_77 : decode cX11_reads 77 = .ok (.iconst 0, 1) := by decide +kernel
theorem dX11_reads_78 : decode cX11_reads 78 = .ok (.istore_n 1, 1) := by decide +kernel
theorem dX11_reads_79 : decode cX11_reads 79 = .ok (.goto (-44), 3) := by decide +kernel
theorem dX11_reads_82 : decode cX11_reads 82 = .ok (.return_, 1) := by decide +kernel
set_option maxRecDepth 100000 in
set_option maxHeartbeats 4000000 in
theorem X11_reads_J78_ok {g : Gm} {w : Wd} (C : Cx g w RX11 cX11_reads 2 none) {lv : Nat} (hlv : 4 < lv) {N : Nat} {r35 : Nat → Int → Mem → Option Mem } {l0 : Nat} {s0 : Int} {m : Mem} {out : Mem} (hr35 : ∀ l0 l1 m, r35 l0 l1 m = some out → Jd g w 2 (rmL lv 0 0) (Qm g w none out) 35 [some (vR l0), some (vI l1)] [] 312 m 0 0) (h : X11_reads_J78 N r35 l0 s0 m = some out) : Jd g w 2 (rmL lv 0 0) (Qm g w none out) 78 [some (vR l0), none] [vI s0] 312 m 0 0 := by
  unfold X11_reads_J78 at h
  refine j_istore_n (ls' := [some (vR _), some (vI _)]) C dX11_reads_78 (by decide) rfl ?_
  refine j_goto C 35 dX11_reads_79 rfl ?_
  exact hr35 _ _ _ h
set_option maxRecDepth 100000 in
set_option maxHeartbeats 4000000 in
theorem X11_reads_J77_ok {g : Gm} {w : Wd} (C : Cx g w RX11 cX11_reads 2 none) {lv : Nat} (hlv : 4 < lv) {N : Nat} {r35 : Nat → Int → Mem → Option Mem } {l0 : Nat} {m : Mem} {out : Mem} (hr35 : ∀ l0 l1 m, r35 l0 l1 m = some out → Jd g w 2 (rmL lv 0 0) (Qm g w none out) 35 [some (vR l0), some (vI l1)] [] 312 m 0 0) (h : X11_reads_J77 N r35 l0 m = some out) : Jd g w 2 (rmL lv 0 0) (Qm g w none out) 77 [some (vR l0), none] [] 312 m 0 0 := by
  unfold X11_reads_J77 at h
  refine j_iconst C dX11_reads_77 rfl ?_
  exact X11_reads_J78_ok C hlv hr35 h
set_option maxRecDepth 100000 in
set_option maxHeartbeats 4000000 in
theorem X11_reads_J62_ok {g : Gm} {w : Wd} (C : Cx g w RX11 cX11_reads 2 none) {lv : Nat} (hlv : 4 < lv) {N : Nat} {r35 : Nat → Int → Mem → Option Mem } {l0 : Nat} {l1 : Int} {m : Mem} {out : Mem} (hr35 : ∀ l0 l1 m, r35 l0 l1 m = some out → Jd g w 2 (rmL lv 0 0) (Qm g w none out) 35 [some (vR l0), some (vI l1)] [] 312 m 0 0) (h : X11_reads_J62 N r35 l0 l1 m = some out) : Jd g w 2 (rmL lv 0 0) (Qm g w none out) 62 [some (vR l0), some (vI l1)] [] 312 m 0 0 := by
  unfold X11_reads_J62 at h
  refine j_iload_n C dX11_reads_62 rfl ?_
  refine j_if_eq C 77 dX11_reads_63 rfl h (fun c11 h => ?_) (fun c11 h => ?_)
  · refine j_mask [true, false] (ls' := [some (vR _), none]) rfl ?_
    exact X11_reads_J77_ok C hlv hr35 h
  · refine j_aload_n C dX11_reads_66 rfl ?_
    refine j_getI C dX11_reads_67 CF11 (by decide) fl_X11_36 rfl rfl h (fun t9 h => ?_)
    refine j_if_ne C 77 dX11_reads_70 rfl h (fun c10 h => ?_) (fun c10 h => ?_)
    · refine j_mask [true, false] (ls' := [some (vR _), none]) rfl ?_
      exact X11_reads_J77_ok C hlv hr35 h
    · refine j_iconst C dX11_reads_73 rfl ?_
      refine j_goto C 78 dX11_reads_74 rfl ?_
      refine j_mask [true, false] (ls' := [some (vR _), none]) rfl ?_
      exact X11_reads_J78_ok C hlv hr35 h
set_option maxRecDepth 100000 in
set_option maxHeartbeats 4000000 in
theorem X11_reads_L35_bok {g : Gm} {w : Wd} (C : Cx g w RX11 cX11_reads 2 none) {lv : Nat} (hlv : 4 < lv) {N : Nat} {r35 : Nat → Int → Mem → Option Mem} {l0 : Nat} {l1 : Int} {m : Mem} {out : Mem} (hr35 : ∀ l0 l1 m, r35 l0 l1 m = some out → Jd g w 2 (rmL lv 0 0) (Qm g w none out) 35 [some (vR l0), some (vI l1)] [] 312 m 0 0) (h : X11_reads_L35_b N r35 l0 l1 m = some out) : Jd g w 2 (rmL lv 0 0) (Qm g w none out) 35 [some (vR l0), some (vI l1)] [] 312 m 0 0 := by
  unfold X11_reads_L35_b at h
  refine j_iload_n C dX11_reads_35 rfl ?_
  refine j_if_eq C 82 dX11_reads_36 rfl h (fun c15 h => ?_) (fun c15 h => ?_)
  · have e := Option.some.inj h
    subst e
    exact j_rv C dX11_reads_82 rfl rfl
  · refine j_aload_n C dX11_reads_39 rfl ?_
    refine j_getI C dX11_reads_40 CF11 (by decide) fl_X11_157 rfl rfl h (fun t7 h => ?_)
    refine j_if_ne C 57 dX11_reads_43 rfl h (fun c14 h => ?_) (fun c14 h => ?_)
    · refine j_aload_n C dX11_reads_57 rfl ?_
      obtain ⟨p8, ep8, h⟩ := bind_some h
      have qp8 := X11_goesOn_ct ep8
      refine j_cVI C dX11_reads_58 vl_X11_366 CF11 rfl qp8.1 qp8.2 (by omega) rfl rfl (Nat.le_of_ble_eq_true rfl) ?_
      refine j_istore_n (ls' := [some (vR _), some (vI _)]) C dX11_reads_61 (by decide) rfl ?_
      exact X11_reads_J62_ok C hlv hr35 h
    · refine j_aload_n C dX11_reads_46 rfl ?_
      refine j_aload_n C dX11_reads_47 rfl ?_
      obtain ⟨p12, ep12, h⟩ := bind_some h
      have qp12 := X11_operand_ct ep12
      refine j_cVI C dX11_reads_48 vl_X11_363 CF11 rfl qp12.1 qp12.2 (by omega) rfl rfl (Nat.le_of_ble_eq_true rfl) ?_
      refine j_putZ C dX11_reads_51 CF11 (by decide) fl_X11_157 rfl rfl rfl rfl h (fun m13 h => ?_)
      refine j_goto C 62 dX11_reads_54 rfl ?_
      exact X11_reads_J62_ok C hlv hr35 h
set_option maxRecDepth 100000 in
set_option maxHeartbeats 4000000 in
theorem X11_reads_L35_ok {g : Gm} {w : Wd} (C : Cx g w RX11 cX11_reads 2 none) {lv : Nat} (hlv : 4 < lv) {N : Nat} {out : Mem} (f : Nat) : ∀ {l0 : Nat} {l1 : Int} {m : Mem}, X11_reads_L35 N f l0 l1 m = some out → Jd g w 2 (rmL lv 0 0) (Qm g w none out) 35 [some (vR l0), some (vI l1)] [] 312 m 0 0 := by
  induction f with
  | zero => intro l0 l1 m h; exact none_ne (α := Mem) h
  | succ f ih => intro l0 l1 m h; exact X11_reads_L35_bok C hlv (fun l0 l1 m h => ih h) h
set_option maxRecDepth 100000 in
set_option maxHeartbeats 4000000 in
theorem X11_reads_ct {N : Nat} {l0 : Nat} {m : Mem} {out : Mem} (h : X11_reads N l0 m = some out) : shK l0 = 11 + 10 ∧ CT yX11_reads cX11_reads 2 none 5 0 0 [vR l0] 312 m none 312 out := by
  unfold X11_reads at h
  obtain ⟨hK, h⟩ := ite_some h
  have hlv : 4 < 5 := by decide
  refine ⟨hK, CT.of (by decide +kernel) rfl (Nat.le_of_ble_eq_true rfl) (ls := [some (vR l0), none]) rfl fun g w C _ => ?_⟩
  refine j_aload_n C dX11_reads_0 rfl ?_
  refine j_getI C dX11_reads_1 CF11 (by decide) fl_X11_36 rfl rfl h (fun t1 h => ?_)
  refine j_if_le C 8 dX11_reads_4 rfl h (fun c16 h => ?_) (fun c16 h => ?_)
  · refine j_aload_n C dX11_reads_8 rfl ?_
    refine j_iconst C dX11_reads_9 rfl ?_
    refine j_putI C dX11_reads_10 CF11 (by decide) fl_X11_145 rfl rfl rfl rfl h (fun m2 h => ?_)
    refine j_aload_n C dX11_reads_13 rfl ?_
    refine j_iconst C dX11_reads_14 rfl ?_
    refine j_putI C dX11_reads_15 CF11 (by decide) fl_X11_148 rfl rfl rfl rfl h (fun m3 h => ?_)
    refine j_aload_n C dX11_reads_18 rfl ?_
    refine j_iconst C dX11_reads_19 rfl ?_
    refine j_putI C dX11_reads_20 CF11 (by decide) fl_X11_154 rfl rfl rfl rfl h (fun m4 h => ?_)
    refine j_aload_n C dX11_reads_23 rfl ?_
    refine j_iconst C dX11_reads_24 rfl ?_
    refine j_putZ C dX11_reads_25 CF11 (by decide) fl_X11_157 rfl rfl rfl rfl h (fun m5 h => ?_)
    refine j_aload_n C dX11_reads_28 rfl ?_
    refine j_iconst C dX11_reads_29 rfl ?_
    obtain ⟨p6, ep6, h⟩ := bind_some h
    have qp6 := X11_pushes_ct ep6
    refine j_cVV C dX11_reads_30 vl_X11_348 CF11 rfl qp6.1 qp6.2 (by omega) rfl rfl (Nat.le_of_ble_eq_true rfl) ?_
    refine j_iconst C dX11_reads_33 rfl ?_
    refine j_istore_n (ls' := [some (vR _), some (vI _)]) C dX11_reads_34 (by decide) rfl ?_
    exact X11_reads_L35_ok C hlv N h
  · have e := Option.some.inj h
    subst e
    exact j_rv C dX11_reads_7 rfl rfl
theorem dX11_dewing_0 : decode cX11_dewing 0 = .ok (.aload_n 0, 1) := by decide +kernel
theorem dX11_dewing_1 : decode cX11_dewing 1 = .ok (.aload_n 0, 1) := by decide +kernel
theorem dX11_dewing_2 : decode cX11_dewing 2 = .ok (.getfield 96, 3) := by decide +kernel
theorem dX11_dewing_5 : decode cX11_dewing 5 = .ok (.aload_n 0, 1) := by decide +kernel
theorem dX11_dewing_6 : decode cX11_dewing 6 = .ok (.getfield 133, 3) := by decide +kernel
theorem dX11_dewing_9 : decode cX11_dewing 9 = .ok (.iaload, 1) := by decide +kernel
theorem dX11_dewing_10 : decode cX11_dewing 10 = .ok (.iconst (-1), 1) := by decide +kernel
theorem dX11_dewing_11 : decode cX11_dewing 11 = .ok (.if_icmp .eq 7, 3) := by decide +kernel
theorem dX11_dewing_14 : decode cX11_dewing 14 = .ok (.iconst 1, 1) := by decide +kernel
theorem dX11_dewing_15 : decode cX11_dewing 15 = .ok (.goto 4, 3) := by decide +kernel
theorem dX11_dewing_18 : decode cX11_dewing 18 = .ok (.iconst 0, 1) := by decide +kernel
theorem dX11_dewing_19 : decode cX11_dewing 19 = .ok (.invokevirtual 382, 3) := by decide +kernel
theorem dX11_dewing_22 : decode cX11_dewing 22 = .ok (.ifCond .ne 4, 3) := by decide +kernel
theorem dX11_dewing_25 : decode cX11_dewing 25 = .ok (.return_, 1) := by decide +kernel
theorem dX11_dewing_26 : decode cX11_dewing 26 = .ok (.aload_n 0, 1) := by decide +kernel
theorem dX11_dewing_27 : decode cX11_dewing 27 = .ok (.getfield 96, 3) := by decide +kernel
theorem dX11_dewing_30 : decode cX11_dewing 30 = .ok (.aload_n 0, 1) := by decide +kernel
theorem dX11_dewing_31 : decode cX11_dewing 31 = .ok (.getfield 133, 3) := by decide +kernel
theorem dX11_dewing_34 : decode cX11_dewing 34 = .ok (.aload_n 0, 1) := by decide +kernel
theorem dX11_dewing_35 : decode cX11_dewing 35 = .ok (.getfield 130, 3) := by decide +kernel
theorem dX11_dewing_38 : decode cX11_dewing 38 = .ok (.iastore, 1) := by decide +kernel
theorem dX11_dewing_39 : decode cX11_dewing 39 = .ok (.aload_n 0, 1) := by decide +kernel
theorem dX11_dewing_40 : decode cX11_dewing 40 = .ok (.invokevirtual 397, 3) := by decide +kernel
theorem dX11_dewing_43 : decode cX11_dewing 43 = .ok (.aload_n 0, 1) := by decide +kernel
theorem dX11_dewing_44 : decode cX11_dewing 44 = .ok (.getfield 99, 3) := by decide +kernel
theorem dX11_dewing_47 : decode cX11_dewing 47 = .ok (.aload_n 0, 1) := by decide +kernel
theorem dX11_dewing_48 : decode cX11_dewing 48 = .ok (.getfield 133, 3) := by decide +kernel
theorem dX11_dewing_51 : decode cX11_dewing 51 = .ok (.aload_n 0, 1) := by decide +kernel
theorem dX11_dewing_52 : decode cX11_dewing 52 = .ok (.getfield 130, 3) := by decide +kernel
theorem dX11_dewing_55 : decode cX11_dewing 55 = .ok (.iastore, 1) := by decide +kernel
theorem dX11_dewing_56 : decode cX11_dewing 56 = .ok (.return_, 1) := by decide +kernel
set_option maxRecDepth 100000 in
set_option maxHeartbeats 4000000 in
theorem X11_dewing_J19_ok {g : Gm} {w : Wd} (C : Cx g w RX11 cX11_dewing 1 none) {lv : Nat} (hlv : 5 < lv) {N : Nat} {l0 : Nat} {s0 : Nat} {s1 : Int} {m : Mem} {out : Mem} (h : X11_dewing_J19 N l0 s0 s1 m = some out) : Jd g w 1 (rmL lv 0 0) (Qm g w none out) 19 [some (vR l0)] [vI s1, vR s0] 312 m 0 0 := by
  unfold X11_dewing_J19 at h
  obtain ⟨p4, ep4, h⟩ := bind_some h
  have qp4 := X11_counts_ct ep4
  refine j_cVI C dX11_dewing_19 vl_X11_382 CF11 rfl qp4.1 qp4.2 (by omega) rfl rfl (Nat.le_of_ble_eq_true rfl) ?_
  refine j_if_ne C 26 dX11_dewing_22 rfl h (fun c14 h => ?_) (fun c14 h => ?_)
  · refine j_aload_n C dX11_dewing_26 rfl ?_
    refine j_getR C dX11_dewing_27 CF11 (by decide) fl_X11_96 rfl rfl h (fun t5 h => ?_)
    refine j_aload_n C dX11_dewing_30 rfl ?_
    refine j_getI C dX11_dewing_31 CF11 (by decide) fl_X11_133 rfl rfl h (fun t6 h => ?_)
    refine j_aload_n C dX11_dewing_34 rfl ?_
    refine j_getI C dX11_dewing_35 CF11 (by decide) fl_X11_130 rfl rfl h (fun t7 h => ?_)
    refine j_iast C dX11_dewing_38 rfl h (fun m8 h => ?_)
    refine j_aload_n C dX11_dewing_39 rfl ?_
    obtain ⟨p9, ep9, h⟩ := bind_some h
    have qp9 := X11_reads_ct ep9
    refine j_cVV C dX11_dewing_40 vl_X11_397 CF11 rfl qp9.1 qp9.2 (by omega) rfl rfl (Nat.le_of_ble_eq_true rfl) ?_
    refine j_aload_n C dX11_dewing_43 rfl ?_
    refine j_getR C dX11_dewing_44 CF11 (by decide) fl_X11_99 rfl rfl h (fun t10 h => ?_)
    refine j_aload_n C dX11_dewing_47 rfl ?_
    refine j_getI C dX11_dewing_48 CF11 (by decide) fl_X11_133 rfl rfl h (fun t11 h => ?_)
    refine j_aload_n C dX11_dewing_51 rfl ?_
    refine j_getI C dX11_dewing_52 CF11 (by decide) fl_X11_130 rfl rfl h (fun t12 h => ?_)
    refine j_iast C dX11_dewing_55 rfl h (fun m13 h => ?_)
    have e := Option.some.inj h
    subst e
    exact j_rv C dX11_dewing_56 rfl rfl
  · have e := Option.some.inj h
    subst e
    exact j_rv C dX11_dewing_25 rfl rfl
set_option maxRecDepth 100000 in
set_option maxHeartbeats 4000000 in
theorem X11_dewing_ct {N : Nat} {l0 : Nat} {m : Mem} {out : Mem} (h : X11_dewing N l0 m = some out) : shK l0 = 11 + 10 ∧ CT yX11_dewing cX11_dewing 1 none 6 0 0 [vR l0] 312 m none 312 out := by
  unfold X11_dewing at h
  obtain ⟨hK, h⟩ := ite_some h
  have hlv : 5 < 6 := by decide
  refine ⟨hK, CT.of (by decide +kernel) rfl (Nat.le_of_ble_eq_true rfl) (ls := [some (vR l0)]) rfl fun g w C _ => ?_⟩
  refine j_aload_n C dX11_dewing_0 rfl ?_
  refine j_aload_n C dX11_dewing_1 rfl ?_
  refine j_getR C dX11_dewing_2 CF11 (by decide) fl_X11_96 rfl rfl h (fun t1 h => ?_)
  refine j_aload_n C dX11_dewing_5 rfl ?_
  refine j_getI C dX11_dewing_6 CF11 (by decide) fl_X11_133 rfl rfl h (fun t2 h => ?_)
  refine j_iald C dX11_dewing_9 rfl h (fun t3 h => ?_)
  refine j_iconst C dX11_dewing_10 rfl ?_
  refine j_icmp_eq C 18 dX11_dewing_11 rfl h (fun c15 h => ?_) (fun c15 h => ?_)
  · refine j_iconst C dX11_dewing_18 rfl ?_
    exact X11_dewing_J19_ok C hlv h
  · refine j_iconst C dX11_dewing_14 rfl ?_
    refine j_goto C 19 dX11_dewing_15 rfl ?_
    exact X11_dewing_J19_ok C hlv h
theorem dX11_down_0 : decode cX11_down 0 = .ok (.aload_n 0, 1) := by decide +kernel
theorem dX11_down_1 : decode cX11_down 1 = .ok (.iload_n 1, 1) := by decide +kernel
theorem dX11_down_2 : decode cX11_down 2 = .ok (.invokevirtual 532, 3) := by decide +kernel
theorem dX11_down_5 : decode cX11_down 5 = .ok (.ifCond .eq 29, 3) := by decide +kernel
theorem dX11_down_8 : decode cX11_down 8 = .ok (.aload_n 0, 1) := by decide +kernel
theorem dX11_down_9 : decode cX11_down 9 = .ok (.iconst 0, 1) := by decide +kernel
theorem dX11_down_10 : decode cX11_down 10 = .ok (.iload_n 1, 1) := by decide +kernel
theorem dX11_down_11 : decode cX11_down 11 = .ok (.invokevirtual 451, 3) := by decide +kernel
theorem dX11_down_14 : decode cX11_down 14 = .ok (.ifCond .eq 20, 3) := by decide +kernel
theorem dX11_down_17 : decode cX11_down 17 = .ok (.aload_n 0, 1) := by decide +kernel
theorem dX11_down_18 : decode cX11_down 18 = .ok (.iload_n 2, 1) := by decide +kernel
theorem dX11_down_19 : decode cX11_down 19 = .ok (.invokevirtual 547, 3) := by decide +kernel
theorem dX11_down_22 : decode cX11_down 22 = .ok (.ifCond .eq 12, 3) := by decide +kernel
theorem dX11_down_25 : decode cX11_down 25 = .ok (.aload_n 0, 1) := by decide +kernel
theorem dX11_down_26 : decode cX11_down 26 = .ok (.iload_n 1, 1) := by decide +kernel
theorem dX11_down_27 : decode cX11_down 27 = .ok (.iload_n 2, 1) := by decide +kernel
theorem dX11_down_28 : decode cX11_down 28 = .ok (.invokevirtual 595, 3) := by decide +kernel
theorem dX11_down_31 : decode cX11_down 31 = .ok (.goto 6, 3) := by decide +kernel
theorem dX11_down_34 : decode cX11_down 34 = .ok (.ldc_w 598, 3) := by decide +kernel
theorem dX11_down_37 : decode cX11_down 37 = .ok (.ireturn, 1) := by decide +kernel
set_option maxRecDepth 100000 in
set_option maxHeartbeats 4000000 in
theorem X11_down_J34_ok {g : Gm} {w : Wd} (C : Cx g w RX11 cX11_down 3 (some .int)) {lv : Nat} (hlv : 9 < lv) {N : Nat}  {m : Mem} {out : (Int × Mem)} (h : X11_down_J34 N m = some out) : Jd g w 3 (rmL lv 0 0) (Qm g w (some (vI out.1)) out.2) 34 [none, none, none] [] 312 m 0 0 := by
  unfold X11_down_J34 at h
  refine j_ldcw (v := -1000000000) C dX11_down_34 k_X11_598 rfl rfl ?_
  have e := Option.some.inj h
  subst e
  exact j_ri C dX11_down_37 rfl rfl rfl
set_option maxRecDepth 100000 in
set_option maxHeartbeats 4000000 in
theorem X11_down_ct {N : Nat} {l0 : Nat} {l1 : Int} {l2 : Int} {m : Mem} {out : (Int × Mem)} (h : X11_down N l0 l1 l2 m = some out) : shK l0 = 11 + 10 ∧ CT yX11_down cX11_down 3 (some .int) 10 0 0 [vR l0, vI l1, vI l2] 312 m (some (vI out.1)) 312 out.2 := by
  unfold X11_down at h
  obtain ⟨hK, h⟩ := ite_some h
  have hlv : 9 < 10 := by decide
  refine ⟨hK, CT.of (by decide +kernel) rfl (Nat.le_of_ble_eq_true rfl) (ls := [some (vR l0), some (vI l1), some (vI l2)]) rfl fun g w C _ => ?_⟩
  refine j_aload_n C dX11_down_0 rfl ?_
  refine j_iload_n C dX11_down_1 rfl ?_
  obtain ⟨p1, ep1, h⟩ := bind_some h
  have qp1 := X11_isCell_ct ep1
  refine j_cVI C dX11_down_2 vl_X11_532 CF11 rfl qp1.1 qp1.2 (by omega) rfl rfl (Nat.le_of_ble_eq_true rfl) ?_
  refine j_if_eq C 34 dX11_down_5 rfl h (fun c7 h => ?_) (fun c7 h => ?_)
  · refine j_mask [false, false, false] (ls' := [none, none, none]) rfl ?_
    exact X11_down_J34_ok C hlv h
  · refine j_aload_n C dX11_down_8 rfl ?_
    refine j_iconst C dX11_down_9 rfl ?_
    refine j_iload_n C dX11_down_10 rfl ?_
    obtain ⟨p2, ep2, h⟩ := bind_some h
    have qp2 := X11_isWall_ct ep2
    refine j_cVI C dX11_down_11 vl_X11_451 CF11 rfl qp2.1 qp2.2 (by omega) rfl rfl (Nat.le_of_ble_eq_true rfl) ?_
    refine j_if_eq C 34 dX11_down_14 rfl h (fun c6 h => ?_) (fun c6 h => ?_)
    · refine j_mask [false, false, false] (ls' := [none, none, none]) rfl ?_
      exact X11_down_J34_ok C hlv h
    · refine j_aload_n C dX11_down_17 rfl ?_
      refine j_iload_n C dX11_down_18 rfl ?_
      obtain ⟨p3, ep3, h⟩ := bind_some h
      have qp3 := X11_isCistern_ct ep3
      refine j_cVI C dX11_down_19 vl_X11_547 CF11 rfl qp3.1 qp3.2 (by omega) rfl rfl (Nat.le_of_ble_eq_true rfl) ?_
      refine j_if_eq C 34 dX11_down_22 rfl h (fun c5 h => ?_) (fun c5 h => ?_)
      · refine j_mask [false, false, false] (ls' := [none, none, none]) rfl ?_
        exact X11_down_J34_ok C hlv h
      · refine j_aload_n C dX11_down_25 rfl ?_
        refine j_iload_n C dX11_down_26 rfl ?_
        refine j_iload_n C dX11_down_27 rfl ?_
        obtain ⟨p4, ep4, h⟩ := bind_some h
        have qp4 := X11_without_ct ep4
        refine j_cVI C dX11_down_28 vl_X11_595 CF11 rfl qp4.1 qp4.2 (by omega) rfl rfl (Nat.le_of_ble_eq_true rfl) ?_
        refine j_goto C 37 dX11_down_31 rfl ?_
        have e := Option.some.inj h
        subst e
        exact j_ri C dX11_down_37 rfl rfl rfl
theorem dX11_draw_0 : decode cX11_draw 0 = .ok (.aload_n 0, 1) := by decide +kernel
theorem dX11_draw_1 : decode cX11_draw 1 = .ok (.ldc2_w 565, 3) := by decide +kernel
theorem dX11_draw_4 : decode cX11_draw 4 = .ok (.aload_n 0, 1) := by decide +kernel
theorem dX11_draw_5 : decode cX11_draw 5 = .ok (.getfield 182, 3) := by decide +kernel
theorem dX11_draw_8 : decode cX11_draw 8 = .ok (.lmul, 1) := by decide +kernel
theorem dX11_draw_9 : decode cX11_draw 9 = .ok (.ldc2_w 567, 3) := by decide +kernel
theorem dX11_draw_12 : decode cX11_draw 12 = .ok (.ladd, 1) := by decide +kernel
theorem dX11_draw_13 : decode cX11_draw 13 = .ok (.ldc2_w 569, 3) := by decide +kernel
theorem dX11_draw_16 : decode cX11_draw 16 = .ok (.lrem, 1) := by decide +kernel
theorem dX11_draw_17 : decode cX11_draw 17 = .ok (.putfield 182, 3) := by decide +kernel
theorem dX11_draw_20 : decode cX11_draw 20 = .ok (.aload_n 0, 1) := by decide +kernel
theorem dX11_draw_21 : decode cX11_draw 21 = .ok (.getfield 182, 3) := by decide +kernel
theorem dX11_draw_24 : decode cX11_draw 24 = .ok (.ldc2_w 571, 3) := by decide +kernel
theorem dX11_draw_27 : decode cX11_draw 27 = .ok (.ldiv, 1) := by decide +kernel
theorem dX11_draw_28 : decode cX11_draw 28 = .ok (.iload_n 1, 1) := by decide +kernel
theorem dX11_draw_29 : decode cX11_draw 29 = .ok (.i2l, 1) := by decide +kernel
theorem dX11_draw_30 : decode cX11_draw 30 = .ok (.lrem, 1) := by decide +kernel
theorem dX11_draw_31 : decode cX11_draw 31 = .ok (.l2i, 1) := by decide +kernel
theorem dX11_draw_32 : decode cX11_draw 32 = .ok (.ireturn, 1) := by decide +kernel
set_option maxRecDepth 100000 in
set_option maxHeartbeats 4000000 in
theorem X11_draw_ct {l0 : Nat} {l1 : Int} {m : Mem} {out : (Int × Mem)} (h : X11_draw l0 l1 m = some out) : shK l0 = 11 + 10 ∧ CT yX11_draw cX11_draw 2 (some .int) 1 0 0 [vR l0, vI l1] 312 m (some (vI out.1)) 312 out.2 := by
  unfold X11_draw at h
  obtain ⟨hK, h⟩ := ite_some h
  have hlv : 0 < 1 := by decide
  refine ⟨hK, CT.of (by decide +kernel) rfl (Nat.le_of_ble_eq_true rfl) (ls := [some (vR l0), some (vI l1)]) rfl fun g w C _ => ?_⟩
  refine j_aload_n C dX11_draw_0 rfl ?_
  refine j_ldc2 (v := 1103515245) C dX11_draw_1 k_X11_565 rfl rfl ?_
  refine j_aload_n C dX11_draw_4 rfl ?_
  refine j_getL C dX11_draw_5 CF11 (by decide) fl_X11_182 rfl rfl h (fun t1 h => ?_)
  refine j_lmul C dX11_draw_8 ?_
  refine j_ldc2 (v := 12345) C dX11_draw_9 k_X11_567 rfl rfl ?_
  refine j_ladd C dX11_draw_12 ?_
  refine j_ldc2 (v := 2147483648) C dX11_draw_13 k_X11_569 rfl rfl ?_
  refine j_lrem C dX11_draw_16 (by decide) ?_
  refine j_putL C dX11_draw_17 CF11 (by decide) fl_X11_182 rfl rfl rfl rfl h (fun m2 h => ?_)
  refine j_aload_n C dX11_draw_20 rfl ?_
  refine j_getL C dX11_draw_21 CF11 (by decide) fl_X11_182 rfl rfl h (fun t3 h => ?_)
  refine j_ldc2 (v := 64) C dX11_draw_24 k_X11_571 rfl rfl ?_
  refine j_ldiv C dX11_draw_27 (by decide) ?_
  refine j_iload_n C dX11_draw_28 rfl ?_
  refine j_i2l C dX11_draw_29 ?_
  obtain ⟨c4, h⟩ := ite_none h
  refine j_lrem C dX11_draw_30 c4 ?_
  refine j_l2i C dX11_draw_31 ?_
  have e := Option.some.inj h
  subst e
  exact j_ri C dX11_draw_32 rfl rfl rfl
theorem dX11_drying_0 : decode cX11_drying 0 = .ok (.aload_n 0, 1) := by decide +kernel
theorem dX11_drying_1 : decode cX11_drying 1 = .ok (.aload_n 0, 1) := by decide +kernel
theorem dX11_drying_2 : decode cX11_drying 2 = .ok (.getfield 102, 3) := by decide +kernel
theorem dX11_drying_5 : decode cX11_drying 5 = .ok (.aload_n 0, 1) := by decide +kernel
theorem dX11_drying_6 : decode cX11_drying 6 = .ok (.getfield 133, 3) := by decide +kernel
theorem dX11_drying_9 : decode cX11_drying 9 = .ok (.iaload, 1) := by decide +kernel
theorem dX11_drying_10 : decode cX11_drying 10 = .ok (.iconst (-1), 1) := by decide +kernel
theorem dX11_drying_11 : decode cX11_drying 11 = .ok (.if_icmp .eq 7, 3) := by decide +kernel
theorem dX11_drying_14 : decode cX11_drying 14 = .ok (.iconst 1, 1) := by decide +kernel
theorem dX11_drying_15 : decode cX11_drying 15 = .ok (.goto 4, 3) := by decide +kernel
theorem dX11_drying_18 : decode cX11_drying 18 = .ok (.iconst 0, 1) := by decide +kernel
theorem dX11_drying_19 : decode cX11_drying 19 = .ok (.invokevirtual 382, 3) := by decide +kernel
theorem dX11_drying_22 : decode cX11_drying 22 = .ok (.ifCond .ne 4, 3) := by decide +kernel
theorem dX11_drying_25 : decode cX11_drying 25 = .ok (.return_, 1) := by decide +kernel
theorem dX11_drying_26 : decode cX11_drying 26 = .ok (.aload_n 0, 1) := by decide +kernel
theorem dX11_drying_27 : decode cX11_drying 27 = .ok (.getfield 102, 3) := by decide +kernel
theorem dX11_drying_30 : decode cX11_drying 30 = .ok (.aload_n 0, 1) := by decide +kernel
theorem dX11_drying_31 : decode cX11_drying 31 = .ok (.getfield 133, 3) := by decide +kernel
theorem dX11_drying_34 : decode cX11_drying 34 = .ok (.aload_n 0, 1) := by decide +kernel
theorem dX11_drying_35 : decode cX11_drying 35 = .ok (.getfield 130, 3) := by decide +kernel
theorem dX11_drying_38 : decode cX11_drying 38 = .ok (.iastore, 1) := by decide +kernel
theorem dX11_drying_39 : decode cX11_drying 39 = .ok (.aload_n 0, 1) := by decide +kernel
theorem dX11_drying_40 : decode cX11_drying 40 = .ok (.invokevirtual 397, 3) := by decide +kernel
theorem dX11_drying_43 : decode cX11_drying 43 = .ok (.aload_n 0, 1) := by decide +kernel
theorem dX11_drying_44 : decode cX11_drying 44 = .ok (.getfield 105, 3) := by decide +kernel
theorem dX11_drying_47 : decode cX11_drying 47 = .ok (.aload_n 0, 1) := by decide +kernel
theorem dX11_drying_48 : decode cX11_drying 48 = .ok (.getfield 133, 3) := by decide +kernel
theorem dX11_drying_51 : decode cX11_drying 51 = .ok (.aload_n 0, 1) := by decide +kernel
theorem dX11_drying_52 : decode cX11_drying 52 = .ok (.getfield 130, 3) := by decide +kernel
theorem dX11_drying_55 : decode cX11_drying 55 = .ok (.iastore, 1) := by decide +kernel
theorem dX11_drying_56 : decode cX11_drying 56 = .ok (.return_, 1) := by decide +kernel
set_option maxRecDepth 100000 in
set_option maxHeartbeats 4000000 in
theorem X11_drying_J19_ok {g : Gm} {w : Wd} (C : Cx g w RX11 cX11_drying 1 none) {lv : Nat} (hlv : 5 < lv) {N : Nat} {l0 : Nat} {s0 : Nat} {s1 : Int} {m : Mem} {out : Mem} (h : X11_drying_J19 N l0 s0 s1 m = some out) : Jd g w 1 (rmL lv 0 0) (Qm g w none out) 19 [some (vR l0)] [vI s1, vR s0] 312 m 0 0 := by
  unfold X11_drying_J19 at h
  obtain ⟨p4, ep4, h⟩ := bind_some h
  have qp4 := X11_counts_ct ep4
  refine j_cVI C dX11_drying_19 vl_X11_382 CF11 rfl qp4.1 qp4.2 (by omega) rfl rfl (Nat.le_of_ble_eq_true rfl) ?_
  refine j_if_ne C 26 dX11_drying_22 rfl h (fun c14 h => ?_) (fun c14 h => ?_)
  · refine j_aload_n C dX11_drying_26 rfl ?_
    refine j_getR C dX11_drying_27 CF11 (by decide) fl_X11_102 rfl rfl h (fun t5 h => ?_)
    refine j_aload_n C dX11_drying_30 rfl ?_
    refine j_getI C dX11_drying_31 CF11 (by decide) fl_X11_133 rfl rfl h (fun t6 h => ?_)
    refine j_aload_n C dX11_drying_34 rfl ?_
    refine j_getI C dX11_drying_35 CF11 (by decide) fl_X11_130 rfl rfl h (fun t7 h => ?_)
    refine j_iast C dX11_drying_38 rfl h (fun m8 h => ?_)
    refine j_aload_n C dX11_drying_39 rfl ?_
    obtain ⟨p9, ep9, h⟩ := bind_some h
    have qp9 := X11_reads_ct ep9
    refine j_cVV C dX11_drying_40 vl_X11_397 CF11 rfl qp9.1 qp9.2 (by omega) rfl rfl (Nat.le_of_ble_eq_true rfl) ?_
    refine j_aload_n C dX11_drying_43 rfl ?_
    refine j_getR C dX11_drying_44 CF11 (by decide) fl_X11_105 rfl rfl h (fun t10 h => ?_)
    refine j_aload_n C dX11_drying_47 rfl ?_
    refine j_getI C dX11_drying_48 CF11 (by decide) fl_X11_133 rfl rfl h (fun t11 h => ?_)
    refine j_aload_n C dX11_drying_51 rfl ?_
    refine j_getI C dX11_drying_52 CF11 (by decide) fl_X11_130 rfl rfl h (fun t12 h => ?_)
    refine j_iast C dX11_drying_55 rfl h (fun m13 h => ?_)
    have e := Option.some.inj h
    subst e
    exact j_rv C dX11_drying_56 rfl rfl
  · have e := Option.some.inj h
    subst e
    exact j_rv C dX11_drying_25 rfl rfl
set_option maxRecDepth 100000 in
set_option maxHeartbeats 4000000 in
theorem X11_drying_ct {N : Nat} {l0 : Nat} {m : Mem} {out : Mem} (h : X11_drying N l0 m = some out) : shK l0 = 11 + 10 ∧ CT yX11_drying cX11_drying 1 none 6 0 0 [vR l0] 312 m none 312 out := by
  unfold X11_drying at h
  obtain ⟨hK, h⟩ := ite_some h
  have hlv : 5 < 6 := by decide
  refine ⟨hK, CT.of (by decide +kernel) rfl (Nat.le_of_ble_eq_true rfl) (ls := [some (vR l0)]) rfl fun g w C _ => ?_⟩
  refine j_aload_n C dX11_drying_0 rfl ?_
  refine j_aload_n C dX11_drying_1 rfl ?_
  refine j_getR C dX11_drying_2 CF11 (by decide) fl_X11_102 rfl rfl h (fun t1 h => ?_)
  refine j_aload_n C dX11_drying_5 rfl ?_
  refine j_getI C dX11_drying_6 CF11 (by decide) fl_X11_133 rfl rfl h (fun t2 h => ?_)
  refine j_iald C dX11_drying_9 rfl h (fun t3 h => ?_)
  refine j_iconst C dX11_drying_10 rfl ?_
  refine j_icmp_eq C 18 dX11_drying_11 rfl h (fun c15 h => ?_) (fun c15 h => ?_)
  · refine j_iconst C dX11_drying_18 rfl ?_
    exact X11_drying_J19_ok C hlv h
  · refine j_iconst C dX11_drying_14 rfl ?_
    refine j_goto C 19 dX11_drying_15 rfl ?_
    exact X11_drying_J19_ok C hlv h
theorem dX11_refuses_0 : decode cX11_refuses 0 = .ok (.aload_n 0, 1) := by decide +kernel
theorem dX11_refuses_1 : decode cX11_refuses 1 = .ok (.getfield 161, 3) := by decide +kernel
theorem dX11_refuses_4 : decode cX11_refuses 4 = .ok (.iload_n 1, 1) := by decide +kernel
theorem dX11_refuses_5 : decode cX11_refuses 5 = .ok (.dup2, 1) := by decide +kernel
theorem dX11_refuses_6 : decode cX11_refuses 6 = .ok (.iaload, 1) := by decide +kernel
theorem dX11_refuses_7 : decode cX11_refuses 7 = .ok (.iconst 1, 1) := by decide +kernel
theorem dX11_refuses_8 : decode cX11_refuses 8 = .ok (.iadd, 1) := by decide +kernel
theorem dX11_refuses_9 : decode cX11_refuses 9 = .ok (.iastore, 1) := by decide +kernel
theorem dX11_refuses_10 : decode cX11_refuses 10 = .ok (.iconst (-1), 1) := by decide +kernel
theorem dX11_refuses_11 : decode cX11_refuses 11 = .ok (.ireturn, 1) := by decide +kernel
set_option maxRecDepth 100000 in
set_option maxHeartbeats 4000000 in
theorem X11_refuses_ct {l0 : Nat} {l1 : Int} {m : Mem} {out : (Int × Mem)} (h : X11_refuses l0 l1 m = some out) : shK l0 = 11 + 10 ∧ CT yX11_refuses cX11_refuses 2 (some .int) 1 0 0 [vR l0, vI l1] 312 m (some (vI out.1)) 312 out.2 := by
  unfold X11_refuses at h
  obtain ⟨hK, h⟩ := ite_some h
  have hlv : 0 < 1 := by decide
  refine ⟨hK, CT.of (by decide +kernel) rfl (Nat.le_of_ble_eq_true rfl) (ls := [some (vR l0), some (vI l1)]) rfl fun g w C _ => ?_⟩
  refine j_aload_n C dX11_refuses_0 rfl ?_
  refine j_getR C dX11_refuses_1 CF11 (by decide) fl_X11_161 rfl rfl h (fun t1 h => ?_)
  refine j_iload_n C dX11_refuses_4 rfl ?_
  refine j_dup2 C dX11_refuses_5 rfl rfl ?_
  refine j_iald C dX11_refuses_6 rfl h (fun t2 h => ?_)
  refine j_iconst C dX11_refuses_7 rfl ?_
  refine j_iadd C dX11_refuses_8 ?_
  refine j_iast C dX11_refuses_9 rfl h (fun m3 h => ?_)
  refine j_iconst C dX11_refuses_10 rfl ?_
  have e := Option.some.inj h
  subst e
  exact j_ri C dX11_refuses_11 rfl rfl rfl
theorem dX11_end_0 : decode cX11_end 0 = .ok (.iload_n 1, 1) := by decide +kernel
theorem dX11_end_1 : decode cX11_end 1 = .ok (.ifCond .lt 11, 3) := by decide +kernel
theorem dX11_end_4 : decode cX11_end 4 = .ok (.iload_n 1, 1) := by decide +kernel
theorem dX11_end_5 : decode cX11_end 5 = .ok (.aload_n 0, 1) := by decide +kernel
theorem dX11_end_6 : decode cX11_end 6 = .ok (.getfield 13, 3) := by decide +kernel
theorem dX11_end_9 : decode cX11_end 9 = .ok (.if_icmp .le 17, 3) := by decide +kernel
theorem dX11_end_12 : decode cX11_end 12 = .ok (.aload_n 0, 1) := by decide +kernel
theorem dX11_end_13 : decode cX11_end 13 = .ok (.iconst 0, 1) := by decide +kernel
theorem dX11_end_14 : decode cX11_end 14 = .ok (.invokevirtual 248, 3) := by decide +kernel
theorem dX11_end_17 : decode cX11_end 17 = .ok (.ifCond .lt 7, 3) := by decide +kernel
theorem dX11_end_20 : decode cX11_end 20 = .ok (.iconst 1, 1) := by decide +kernel
theorem dX11_end_21 : decode cX11_end 21 = .ok (.goto 4, 3) := by decide +kernel
theorem dX11_end_24 : decode cX11_end 24 = .ok (.iconst 0, 1) := by decide +kernel
theorem dX11_end_25 : decode cX11_end 25 = .ok (.ireturn, 1) := by decide +kernel
theorem dX11_end_26 : decode cX11_end 26 = .ok (.aload_n 0, 1) := by decide +kernel
theorem dX11_end_27 : decode cX11_end 27 = .ok (.iload_n 1, 1) := by decide +kernel
theorem dX11_end_28 : decode cX11_end 28 = .ok (.putfield 13, 3) := by decide +kernel
theorem dX11_end_31 : decode cX11_end 31 = .ok (.iconst 1, 1) := by decide +kernel
theorem dX11_end_32 : decode cX11_end 32 = .ok (.ireturn, 1) := by decide +kernel
set_option maxRecDepth 100000 in
set_option maxHeartbeats 4000000 in
theorem X11_end_J12_ok {g : Gm} {w : Wd} (C : Cx g w RX11 cX11_end 2 (some .boolean)) {lv : Nat} (hlv : 1 < lv) {l0 : Nat} {m : Mem} {out : (Int × Mem)} (h : X11_end_J12 l0 m = some out) : Jd g w 2 (rmL lv 0 0) (Qm g w (some (vI out.1)) out.2) 12 [some (vR l0), none] [] 312 m 0 0 := by
  unfold X11_end_J12 at h
  refine j_aload_n C dX11_end_12 rfl ?_
  refine j_iconst C dX11_end_13 rfl ?_
  obtain ⟨p1, ep1, h⟩ := bind_some h
  have qp1 := X11_refuses_ct ep1
  refine j_cVI C dX11_end_14 vl_X11_248 CF11 rfl qp1.1 qp1.2 (by omega) rfl rfl (Nat.le_of_ble_eq_true rfl) ?_
  refine j_if_lt C 24 dX11_end_17 rfl h (fun c4 h => ?_) (fun c4 h => ?_)
  · refine j_iconst C dX11_end_24 rfl ?_
    obtain ⟨r2, er2, h⟩ := bind_some h
    have e := Option.some.inj h
    subst e
    exact j_rz C dX11_end_25 rfl (retZ_some er2) rfl
  · refine j_iconst C dX11_end_20 rfl ?_
    refine j_goto C 25 dX11_end_21 rfl ?_
    obtain ⟨r3, er3, h⟩ := bind_some h
    have e := Option.some.inj h
    subst e
    exact j_rz C dX11_end_25 rfl (retZ_some er3) rfl
set_option maxRecDepth 100000 in
set_option maxHeartbeats 4000000 in
theorem X11_end_ct {l0 : Nat} {l1 : Int} {m : Mem} {out : (Int × Mem)} (h : X11_end l0 l1 m = some out) : shK l0 = 11 + 10 ∧ CT yX11_end cX11_end 2 (some .boolean) 2 0 0 [vR l0, vI l1] 312 m (some (vI out.1)) 312 out.2 := by
  unfold X11_end at h
  obtain ⟨hK, h⟩ := ite_some h
  have hlv : 1 < 2 := by decide
  refine ⟨hK, CT.of (by decide +kernel) rfl (Nat.le_of_ble_eq_true rfl) (ls := [some (vR l0), some (vI l1)]) rfl fun g w C _ => ?_⟩
  refine j_iload_n C dX11_end_0 rfl ?_
  refine j_if_lt C 12 dX11_end_1 rfl h (fun c9 h => ?_) (fun c9 h => ?_)
  · refine j_mask [true, false] (ls' := [some (vR _), none]) rfl ?_
    exact X11_end_J12_ok C hlv h
  · refine j_iload_n C dX11_end_4 rfl ?_
    refine j_aload_n C dX11_end_5 rfl ?_
    refine j_getI C dX11_end_6 CF11 (by decide) fl_X11_13 rfl rfl h (fun t5 h => ?_)
    refine j_icmp_le C 26 dX11_end_9 rfl h (fun c8 h => ?_) (fun c8 h => ?_)
    · refine j_aload_n C dX11_end_26 rfl ?_
      refine j_iload_n C dX11_end_27 rfl ?_
      refine j_putI C dX11_end_28 CF11 (by decide) fl_X11_13 rfl rfl rfl rfl h (fun m6 h => ?_)
      refine j_iconst C dX11_end_31 rfl ?_
      obtain ⟨r7, er7, h⟩ := bind_some h
      have e := Option.some.inj h
      subst e
      exact j_rz C dX11_end_32 rfl (retZ_some er7) rfl
    · refine j_mask [true, false] (ls' := [some (vR _), none]) rfl ?_
      exact X11_end_J12_ok C hlv h
theorem dX11_fault_0 : decode cX11_fault 0 = .ok (.iload_n 1, 1) := by decide +kernel
theorem dX11_fault_1 : decode cX11_fault 1 = .ok (.ifCond .ne 10, 3) := by decide +kernel
theorem dX11_fault_4 : decode cX11_fault 4 = .ok (.aload_n 0, 1) := by decide +kernel
theorem dX11_fault_5 : decode cX11_fault 5 = .ok (.getfield 42, 3) := by decide +kernel
theorem dX11_fault_8 : decode cX11_fault 8 = .ok (.goto 16, 3) := by decide +kernel
theorem dX11_fault_11 : decode cX11_fault 11 = .ok (.iload_n 1, 1) := by decide +kernel
theorem dX11_fault_12 : decode cX11_fault 12 = .ok (.iconst 1, 1) := by decide +kernel
theorem dX11_fault_13 : decode cX11_fault 13 = .ok (.if_icmp .ne 10, 3) := by decide +kernel
theorem dX11_fault_16 : decode cX11_fault 16 = .ok (.aload_n 0, 1) := by decide +kernel
theorem dX11_fault_17 : decode cX11_fault 17 = .ok (.getfield 45, 3) := by decide +kernel
theorem dX11_fault_20 : decode cX11_fault 20 = .ok (.goto 4, 3) := by decide +kernel
theorem dX11_fault_23 : decode cX11_fault 23 = .ok (.iconst (-1), 1) := by decide +kernel
theorem dX11_fault_24 : decode cX11_fault 24 = .ok (.ireturn, 1) := by decide +kernel
set_option maxRecDepth 100000 in
set_option maxHeartbeats 4000000 in
theorem X11_fault_ct {l0 : Nat} {l1 : Int} {m : Mem} {out : Int} (h : X11_fault l0 l1 m = some out) : shK l0 = 11 + 10 ∧ CT yX11_fault cX11_fault 2 (some .int) 1 0 0 [vR l0, vI l1] 312 m (some (vI out)) 312 m := by
  unfold X11_fault at h
  obtain ⟨hK, h⟩ := ite_some h
  have hlv : 0 < 1 := by decide
  refine ⟨hK, CT.of (by decide +kernel) rfl (Nat.le_of_ble_eq_true rfl) (ls := [some (vR l0), some (vI l1)]) rfl fun g w C _ => ?_⟩
  refine j_iload_n C dX11_fault_0 rfl ?_
  refine j_if_ne C 11 dX11_fault_1 rfl h (fun c4 h => ?_) (fun c4 h => ?_)
  · refine j_iload_n C dX11_fault_11 rfl ?_
    refine j_iconst C dX11_fault_12 rfl ?_
    refine j_icmp_ne C 23 dX11_fault_13 rfl h (fun c2 h => ?_) (fun c2 h => ?_)
    · refine j_iconst C dX11_fault_23 rfl ?_
      exact j_ri C dX11_fault_24 rfl (Option.some.inj h).symm rfl
    · refine j_aload_n C dX11_fault_16 rfl ?_
      refine j_getI C dX11_fault_17 CF11 (by decide) fl_X11_45 rfl rfl h (fun t1 h => ?_)
      refine j_goto C 24 dX11_fault_20 rfl ?_
      exact j_ri C dX11_fault_24 rfl (Option.some.inj h).symm rfl
  · refine j_aload_n C dX11_fault_4 rfl ?_
    refine j_getI C dX11_fault_5 CF11 (by decide) fl_X11_42 rfl rfl h (fun t3 h => ?_)
    refine j_goto C 24 dX11_fault_8 rfl ?_
    exact j_ri C dX11_fault_24 rfl (Option.some.inj h).symm rfl
theorem dX11_put_0 : decode cX11_put 0 = .ok (.bipush 24, 2) := by decide +kernel
theorem dX11_put_2 : decode cX11_put 2 = .ok (.istore_n 2, 1) := by decide +kernel
theorem dX11_put_3 : decode cX11_put 3 = .ok (.iload_n 2, 1) := by decide +kernel
theorem dX11_put_4 : decode cX11_put 4 = .ok (.ifCond .lt 35, 3) := by decide +kernel
theorem dX11_put_7 : decode cX11_put 7 = .ok (.aload_n 0, 1) := by decide +kernel
theorem dX11_put_8 : decode cX11_put 8 = .ok (.getfield 7, 3) := by decide +kernel
theorem dX11_put_11 : decode cX11_put 11 = .ok (.aload_n 0, 1) := by decide +kernel
theorem dX11_put_12 : decode cX11_put 12 = .ok (.getfield 13, 3) := by decide +kernel
theorem dX11_put_15 : decode cX11_put 15 = .ok (.iload_n 1, 1) := by decide +kernel
theorem dX11_put_16 : decode cX11_put 16 = .ok (.iload_n 2, 1) := by decide +kernel
theorem dX11_put_17 : decode cX11_put 17 = .ok (.ishr, 1) := by decide +kernel
theorem dX11_put_18 : decode cX11_put 18 = .ok (.sipush 255, 3) := by decide +kernel
theorem dX11_put_21 : decode cX11_put 21 = .ok (.iand, 1) := by decide +kernel
theorem dX11_put_22 : decode cX11_put 22 = .ok (.iastore, 1) := by decide +kernel
theorem dX11_put_23 : decode cX11_put 23 = .ok (.aload_n 0, 1) := by decide +kernel
theorem dX11_put_24 : decode cX11_put 24 = .ok (.dup, 1) := by decide +kernel
theorem dX11_put_25 : decode cX11_put 25 = .ok (.getfield 13, 3) := by decide +kernel
theorem dX11_put_28 : decode cX11_put 28 = .ok (.iconst 1, 1) := by decide +kernel
theorem dX11_put_29 : decode cX11_put 29 = .ok (.iadd, 1) := by decide +kernel
theorem dX11_put_30 : decode cX11_put 30 = .ok (.putfield 13, 3) := by decide +kernel
theorem dX11_put_33 : decode cX11_put 33 = .ok (.iinc 2 (-8), 3) := by decide +kernel
theorem dX11_put_36 : decode cX11_put 36 = .ok (.goto (-33), 3) := by decide +kernel
theorem dX11_put_39 : decode cX11_put 39 = .ok (.return_, 1) := by decide +kernel
set_option maxRecDepth 100000 in
set_option maxHeartbeats 4000000 in
theorem X11_put_L3_bok {g : Gm} {w : Wd} (C : Cx g w RX11 cX11_put 3 none) {lv : Nat} (hlv : 0 < lv) {N : Nat} {r3 : Nat → Int → Int → Mem → Option Mem} {l0 : Nat} {l1 : Int} {l2 : Int} {m : Mem} {out : Mem} (hr3 : ∀ l0 l1 l2 m, r3 l0 l1 l2 m = some out → Jd g w 3 (rmL lv 0 0) (Qm g w none out) 3 [some (vR l0), some (vI l1), some (vI l2)] [] 312 m 0 0) (h : X11_put_L3_b N r3 l0 l1 l2 m = some out) : Jd g w 3 (rmL lv 0 0) (Qm g w none out) 3 [some (vR l0), some (vI l1), some (vI l2)] [] 312 m 0 0 := by
  unfold X11_put_L3_b at h
  refine j_iload_n C dX11_put_3 rfl ?_
  refine j_if_lt C 39 dX11_put_4 rfl h (fun c6 h => ?_) (fun c6 h => ?_)
  · have e := Option.some.inj h
    subst e
    exact j_rv C dX11_put_39 rfl rfl
  · refine j_aload_n C dX11_put_7 rfl ?_
    refine j_getR C dX11_put_8 CF11 (by decide) fl_X11_7 rfl rfl h (fun t1 h => ?_)
    refine j_aload_n C dX11_put_11 rfl ?_
    refine j_getI C dX11_put_12 CF11 (by decide) fl_X11_13 rfl rfl h (fun t2 h => ?_)
    refine j_iload_n C dX11_put_15 rfl ?_
    refine j_iload_n C dX11_put_16 rfl ?_
    refine j_ishr C dX11_put_17 ?_
    refine j_sipush C dX11_put_18 rfl ?_
    refine j_iand C dX11_put_21 ?_
    refine j_iast C dX11_put_22 rfl h (fun m3 h => ?_)
    refine j_aload_n C dX11_put_23 rfl ?_
    refine j_dup C dX11_put_24 rfl ?_
    refine j_getI C dX11_put_25 CF11 (by decide) fl_X11_13 rfl rfl h (fun t4 h => ?_)
    refine j_iconst C dX11_put_28 rfl ?_
    refine j_iadd C dX11_put_29 ?_
    refine j_putI C dX11_put_30 CF11 (by decide) fl_X11_13 rfl rfl rfl rfl h (fun m5 h => ?_)
    refine j_iinc (ls' := [some (vR _), some (vI _), some (vI _)]) C dX11_put_33 rfl (by decide) rfl ?_
    refine j_goto C 3 dX11_put_36 rfl ?_
    exact hr3 _ _ _ _ h
set_option maxRecDepth 100000 in
set_option maxHeartbeats 4000000 in
theorem X11_put_L3_ok {g : Gm} {w : Wd} (C : Cx g w RX11 cX11_put 3 none) {lv : Nat} (hlv : 0 < lv) {N : Nat} {out : Mem} (f : Nat) : ∀ {l0 : Nat} {l1 : Int} {l2 : Int} {m : Mem}, X11_put_L3 N f l0 l1 l2 m = some out → Jd g w 3 (rmL lv 0 0) (Qm g w none out) 3 [some (vR l0), some (vI l1), some (vI l2)] [] 312 m 0 0 := by
  induction f with
  | zero => intro l0 l1 l2 m h; exact none_ne (α := Mem) h
  | succ f ih => intro l0 l1 l2 m h; exact X11_put_L3_bok C hlv (fun l0 l1 l2 m h => ih h) h
set_option maxRecDepth 100000 in
set_option maxHeartbeats 4000000 in
theorem X11_put_ct {N : Nat} {l0 : Nat} {l1 : Int} {m : Mem} {out : Mem} (h : X11_put N l0 l1 m = some out) : shK l0 = 11 + 10 ∧ CT yX11_put cX11_put 3 none 1 0 0 [vR l0, vI l1] 312 m none 312 out := by
  unfold X11_put at h
  obtain ⟨hK, h⟩ := ite_some h
  have hlv : 0 < 1 := by decide
  refine ⟨hK, CT.of (by decide +kernel) rfl (Nat.le_of_ble_eq_true rfl) (ls := [some (vR l0), some (vI l1), none]) rfl fun g w C _ => ?_⟩
  refine j_bipush C dX11_put_0 rfl ?_
  refine j_istore_n (ls' := [some (vR _), some (vI _), some (vI _)]) C dX11_put_2 (by decide) rfl ?_
  exact X11_put_L3_ok C hlv N h
theorem dX11_feed_0 : decode cX11_feed 0 = .ok (.aload_n 0, 1) := by decide +kernel
theorem dX11_feed_1 : decode cX11_feed 1 = .ok (.getfield 13, 3) := by decide +kernel
theorem dX11_feed_4 : decode cX11_feed 4 = .ok (.bipush 20, 2) := by decide +kernel
theorem dX11_feed_6 : decode cX11_feed 6 = .ok (.iadd, 1) := by decide +kernel
theorem dX11_feed_7 : decode cX11_feed 7 = .ok (.sipush 1600, 3) := by decide +kernel
theorem dX11_feed_10 : decode cX11_feed 10 = .ok (.if_icmp .le 9, 3) := by decide +kernel
theorem dX11_feed_13 : decode cX11_feed 13 = .ok (.aload_n 0, 1) := by decide +kernel
theorem dX11_feed_14 : decode cX11_feed 14 = .ok (.iconst 0, 1) := by decide +kernel
theorem dX11_feed_15 : decode cX11_feed 15 = .ok (.invokevirtual 248, 3) := by decide +kernel
theorem dX11_feed_18 : decode cX11_feed 18 = .ok (.ireturn, 1) := by decide +kernel
theorem dX11_feed_19 : decode cX11_feed 19 = .ok (.aload_n 0, 1) := by decide +kernel
theorem dX11_feed_20 : decode cX11_feed 20 = .ok (.iload_n 1, 1) := by decide +kernel
theorem dX11_feed_21 : decode cX11_feed 21 = .ok (.invokevirtual 252, 3) := by decide +kernel
theorem dX11_feed_24 : decode cX11_feed 24 = .ok (.aload_n 0, 1) := by decide +kernel
theorem dX11_feed_25 : decode cX11_feed 25 = .ok (.iload_n 2, 1) := by decide +kernel
theorem dX11_feed_26 : decode cX11_feed 26 = .ok (.invokevirtual 252, 3) := by decide +kernel
theorem dX11_feed_29 : decode cX11_feed 29 = .ok (.aload_n 0, 1) := by decide +kernel
theorem dX11_feed_30 : decode cX11_feed 30 = .ok (.iload_n 3, 1) := by decide +kernel
theorem dX11_feed_31 : decode cX11_feed 31 = .ok (.invokevirtual 252, 3) := by decide +kernel
theorem dX11_feed_34 : decode cX11_feed 34 = .ok (.aload_n 0, 1) := by decide +kernel
theorem dX11_feed_35 : decode cX11_feed 35 = .ok (.iload 4, 2) := by decide +kernel
theorem dX11_feed_37 : decode cX11_feed 37 = .ok (.invokevirtual 252, 3) := by decide +kernel
theorem dX11_feed_40 : decode cX11_feed 40 = .ok (.aload_n 0, 1) := by decide +kernel
theorem dX11_feed_41 : decode cX11_feed 41 = .ok (.iload 5, 2) := by decide +kernel
theorem dX11_feed_43 : decode cX11_feed 43 = .ok (.invokevirtual 252, 3) := by decide +kernel
theorem dX11_feed_46 : decode cX11_feed 46 = .ok (.aload_n 0, 1) := by decide +kernel
theorem dX11_feed_47 : decode cX11_feed 47 = .ok (.getfield 13, 3) := by decide +kernel
theorem dX11_feed_50 : decode cX11_feed 50 = .ok (.ireturn, 1) := by decide +kernel
set_option maxRecDepth 100000 in
set_option maxHeartbeats 4000000 in
theorem X11_feed_ct {N : Nat} {l0 : Nat} {l1 : Int} {l2 : Int} {l3 : Int} {l4 : Int} {l5 : Int} {m : Mem} {out : (Int × Mem)} (h : X11_feed N l0 l1 l2 l3 l4 l5 m = some out) : shK l0 = 11 + 10 ∧ CT yX11_feed cX11_feed 6 (some .int) 2 0 0 [vR l0, vI l1, vI l2, vI l3, vI l4, vI l5] 312 m (some (vI out.1)) 312 out.2 := by
  unfold X11_feed at h
  obtain ⟨hK, h⟩ := ite_some h
  have hlv : 1 < 2 := by decide
  refine ⟨hK, CT.of (by decide +kernel) rfl (Nat.le_of_ble_eq_true rfl) (ls := [some (vR l0), some (vI l1), some (vI l2), some (vI l3), some (vI l4), some (vI l5)]) rfl fun g w C _ => ?_⟩
  refine j_aload_n C dX11_feed_0 rfl ?_
  refine j_getI C dX11_feed_1 CF11 (by decide) fl_X11_13 rfl rfl h (fun t1 h => ?_)
  refine j_bipush C dX11_feed_4 rfl ?_
  refine j_iadd C dX11_feed_6 ?_
  refine j_sipush C dX11_feed_7 rfl ?_
  refine j_icmp_le C 19 dX11_feed_10 rfl h (fun c9 h => ?_) (fun c9 h => ?_)
  · refine j_aload_n C dX11_feed_19 rfl ?_
    refine j_iload_n C dX11_feed_20 rfl ?_
    obtain ⟨p2, ep2, h⟩ := bind_some h
    have qp2 := X11_put_ct ep2
    refine j_cVV C dX11_feed_21 vl_X11_252 CF11 rfl qp2.1 qp2.2 (by omega) rfl rfl (Nat.le_of_ble_eq_true rfl) ?_
    refine j_aload_n C dX11_feed_24 rfl ?_
    refine j_iload_n C dX11_feed_25 rfl ?_
    obtain ⟨p3, ep3, h⟩ := bind_some h
    have qp3 := X11_put_ct ep3
    refine j_cVV C dX11_feed_26 vl_X11_252 CF11 rfl qp3.1 qp3.2 (by omega) rfl rfl (Nat.le_of_ble_eq_true rfl) ?_
    refine j_aload_n C dX11_feed_29 rfl ?_
    refine j_iload_n C dX11_feed_30 rfl ?_
    obtain ⟨p4, ep4, h⟩ := bind_some h
    have qp4 := X11_put_ct ep4
    refine j_cVV C dX11_feed_31 vl_X11_252 CF11 rfl qp4.1 qp4.2 (by omega) rfl rfl (Nat.le_of_ble_eq_true rfl) ?_
    refine j_aload_n C dX11_feed_34 rfl ?_
    refine j_iload C dX11_feed_35 rfl ?_
    obtain ⟨p5, ep5, h⟩ := bind_some h
    have qp5 := X11_put_ct ep5
    refine j_cVV C dX11_feed_37 vl_X11_252 CF11 rfl qp5.1 qp5.2 (by omega) rfl rfl (Nat.le_of_ble_eq_true rfl) ?_
    refine j_aload_n C dX11_feed_40 rfl ?_
    refine j_iload C dX11_feed_41 rfl ?_
    obtain ⟨p6, ep6, h⟩ := bind_some h
    have qp6 := X11_put_ct ep6
    refine j_cVV C dX11_feed_43 vl_X11_252 CF11 rfl qp6.1 qp6.2 (by omega) rfl rfl (Nat.le_of_ble_eq_true rfl) ?_
    refine j_aload_n C dX11_feed_46 rfl ?_
    refine j_getI C dX11_feed_47 CF11 (by decide) fl_X11_13 rfl rfl h (fun t7 h => ?_)
    have e := Option.some.inj h
    subst e
    exact j_ri C dX11_feed_50 rfl rfl rfl
  · refine j_aload_n C dX11_feed_13 rfl ?_
    refine j_iconst C dX11_feed_14 rfl ?_
    obtain ⟨p8, ep8, h⟩ := bind_some h
    have qp8 := X11_refuses_ct ep8
    refine j_cVI C dX11_feed_15 vl_X11_248 CF11 rfl qp8.1 qp8.2 (by omega) rfl rfl (Nat.le_of_ble_eq_true rfl) ?_
    have e := Option.some.inj h
    subst e
    exact j_ri C dX11_feed_18 rfl rfl rfl
theorem dX11_fills_0 : decode cX11_fills 0 = .ok (.iconst 0, 1) := by decide +kernel
theorem dX11_fills_1 : decode cX11_fills 1 = .ok (.istore_n 1, 1) := by decide +kernel
theorem dX11_fills_2 : decode cX11_fills 2 = .ok (.iconst 0, 1) := by decide +kernel
theorem dX11_fills_3 : decode cX11_fills 3 = .ok (.istore_n 2, 1) := by decide +kernel
theorem dX11_fills_4 : decode cX11_fills 4 = .ok (.iload_n 2, 1) := by decide +kernel
theorem dX11_fills_5 : decode cX11_fills 5 = .ok (.aload_n 0, 1) := by decide +kernel
theorem dX11_fills_6 : decode cX11_fills 6 = .ok (.getfield 75, 3) := by decide +kernel
theorem dX11_fills_9 : decode cX11_fills 9 = .ok (.aload_n 0, 1) := by decide +kernel
theorem dX11_fills_10 : decode cX11_fills 10 = .ok (.getfield 51, 3) := by decide +kernel
theorem dX11_fills_13 : decode cX11_fills 13 = .ok (.iaload, 1) := by decide +kernel
theorem dX11_fills_14 : decode cX11_fills 14 = .ok (.if_icmp .ge 98, 3) := by decide +kernel
theorem dX11_fills_17 : decode cX11_fills 17 = .ok (.aload_n 0, 1) := by decide +kernel
theorem dX11_fills_18 : decode cX11_fills 18 = .ok (.iconst 0, 1) := by decide +kernel
theorem dX11_fills_19 : decode cX11_fills 19 = .ok (.iload_n 2, 1) := by decide +kernel
theorem dX11_fills_20 : decode cX11_fills 20 = .ok (.invokevirtual 550, 3) := by decide +kernel
theorem dX11_fills_23 : decode cX11_fills 23 = .ok (.istore_n 3, 1) := by decide +kernel
theorem dX11_fills_24 : decode cX11_fills 24 = .ok (.iload_n 1, 1) := by decide +kernel
theorem dX11_fills_25 : decode cX11_fills 25 = .ok (.iload_n 3, 1) := by decide +kernel
theorem dX11_fills_26 : decode cX11_fills 26 = .ok (.iadd, 1) := by decide +kernel
theorem dX11_fills_27 : decode cX11_fills 27 = .ok (.istore_n 1, 1) := by decide +kernel
theorem dX11_fills_28 : decode cX11_fills 28 = .ok (.aload_n 0, 1) := by decide +kernel
theorem dX11_fills_29 : decode cX11_fills 29 = .ok (.getfield 173, 3) := by decide +kernel
theorem dX11_fills_32 : decode cX11_fills 32 = .ok (.iload_n 2, 1) := by decide +kernel
theorem dX11_fills_33 : decode cX11_fills 33 = .ok (.aload_n 0, 1) := by decide +kernel
theorem dX11_fills_34 : decode cX11_fills 34 = .ok (.getfield 173, 3) := by decide +kernel
theorem dX11_fills_37 : decode cX11_fills 37 = .ok (.iload_n 2, 1) := by decide +kernel
theorem dX11_fills_38 : decode cX11_fills 38 = .ok (.iaload, 1) := by decide +kernel
theorem dX11_fills_39 : decode cX11_fills 39 = .ok (.iload_n 3, 1) := by decide +kernel
theorem dX11_fills_40 : decode cX11_fills 40 = .ok (.iadd, 1) := by decide +kernel
theorem dX11_fills_41 : decode cX11_fills 41 = .ok (.sipush 9999, 3) := by decide +kernel
theorem dX11_fills_44 : decode cX11_fills 44 = .ok (.if_icmp .le 9, 3) := by decide +kernel
theorem dX11_fills_47 : decode cX11_fills 47 = .ok (.sipush 9999, 3) := by decide +kernel
theorem dX11_fills_50 : decode cX11_fills 50 = .ok (.goto 11, 3) := by decide +kernel
theorem dX11_fills_53 : decode cX11_fills 53 = .ok (.aload_n 0, 1) := by decide +kernel
theorem dX11_fills_54 : decode cX11_fills 54 = .ok (.getfield 173, 3) := by decide +kernel
theorem dX11_fills_57 : decode cX11_fills 57 = .ok (.iload_n 2, 1) := by decide +kernel
theorem dX11_fills_58 : decode cX11_fills 58 = .ok (.iaload, 1) := by decide +kernel
theorem dX11_fills_59 : decode cX11_fills 59 = .ok (.iload_n 3, 1) := by decide +kernel
theorem dX11_fills_60 : decode cX11_fills 60 = .ok (.iadd, 1) := by decide +kernel
theorem dX11_fills_61 : decode cX11_fills 61 = .ok (.iastore, 1) := by decide +kernel
theorem dX11_fills_62 : decode cX11_fills 62 = .ok (.aload_n 0, 1) := by decide +kernel
theorem dX11_fills_63 : decode cX11_fills 63 = .ok (.getfield 173, 3) := by decide +kernel
theorem dX11_fills_66 : decode cX11_fills 66 = .ok (.iload_n 2, 1) := by decide +kernel
theorem dX11_fills_67 : decode cX11_fills 67 = .ok (.aload_n 0, 1) := by decide +kernel
theorem dX11_fills_68 : decode cX11_fills 68 = .ok (.getfield 173, 3) := by decide +kernel
theorem dX11_fills_71 : decode cX11_fills 71 = .ok (.iload_n 2, 1) := by decide +kernel
theorem dX11_fills_72 : decode cX11_fills 72 = .ok (.iaload, 1) := by decide +kernel
theorem dX11_fills_73 : decode cX11_fills 73 = .ok (.aload_n 0, 1) := by decide +kernel
theorem dX11_fills_74 : decode cX11_fills 74 = .ok (.getfield 108, 3) := by decide +kernel
theorem dX11_fills_77 : decode cX11_fills 77 = .ok (.aload_n 0, 1) := by decide +kernel
theorem dX11_fills_78 : decode cX11_fills 78 = .ok (.getfield 51, 3) := by decide +kernel
theorem dX11_fills_81 : decode cX11_fills 81 = .ok (.iaload, 1) := by decide +kernel
theorem dX11_fills_82 : decode cX11_fills 82 = .ok (.if_icmp .ge 7, 3) := by decide +kernel
theorem dX11_fills_85 : decode cX11_fills 85 = .ok (.iconst 0, 1) := by decide +kernel
theorem dX11_fills_86 : decode cX11_fills 86 = .ok (.goto 19, 3) := by decide +kernel
theorem dX11_fills_89 : decode cX11_fills 89 = .ok (.aload_n 0, 1) := by decide +kernel
theorem dX11_fills_90 : decode cX11_fills 90 = .ok (.getfield 173, 3) := by decide +kernel
theorem dX11_fills_93 : decode cX11_fills 93 = .ok (.iload_n 2, 1) := by decide +kernel
theorem dX11_fills_94 : decode cX11_fills 94 = .ok (.iaload, 1) := by decide +kernel
theorem dX11_fills_95 : decode cX11_fills 95 = .ok (.aload_n 0, 1) := by decide +kernel
theorem dX11_fills_96 : decode cX11_fills 96 = .ok (.getfield 108, 3) := by decide +kernel
theorem dX11_fills_99 : decode cX11_fills 99 = .ok (.aload_n 0, 1) := by decide +kernel
theorem dX11_fills_100 : decode cX11_fills 100 = .ok (.getfield 51, 3) := by decide +kernel
theorem dX11_fills_103 : decode cX11_fills 103 = .ok (.iaload, 1) := by decide +kernel
theorem dX11_fills_104 : decode cX11_fills 104 = .ok (.isub, 1) := by decide +kernel
theorem dX11_fills_105 : decode cX11_fills 105 = .ok (.iastore, 1) := by decide +kernel
theorem dX11_fills_106 : decode cX11_fills 106 = .ok (.iinc 2 1, 3) := by decide +kernel
theorem dX11_fills_109 : decode cX11_fills 109 = .ok (.goto (-105), 3) := by decide +kernel
theorem dX11_fills_112 : decode cX11_fills 112 = .ok (.aload_n 0, 1) := by decide +kernel
theorem dX11_fills_113 : decode cX11_fills 113 = .ok (.getfield 164, 3) := by decide +kernel
theorem dX11_fills_116 : decode cX11_fills 116 = .ok (.iconst 0, 1) := by decide +kernel
theorem dX11_fills_117 : decode cX11_fills 117 = .ok (.dup2, 1) := by decide +kernel
theorem dX11_fills_118 : decode cX11_fills 118 = .ok (.iaload, 1) := by decide +kernel
theorem dX11_fills_119 : decode cX11_fills 119 = .ok (.iconst 1, 1) := by decide +kernel
theorem dX11_fills_120 : decode cX11_fills 120 = .ok (.iadd, 1) := by decide +kernel
theorem dX11_fills_121 : decode cX11_fills 121 = .ok (.iastore, 1) := by decide +kernel
theorem dX11_fills_122 : decode cX11_fills 122 = .ok (.iload_n 1, 1) := by decide +kernel
theorem dX11_fills_123 : decode cX11_fills 123 = .ok (.ireturn, 1) := by decide +kernel
set_option maxRecDepth 100000 in
set_option maxHeartbeats 4000000 in
theorem X11_fills_J105_ok {g : Gm} {w : Wd} (C : Cx g w RX11 cX11_fills 4 (some .int)) {lv : Nat} (hlv : 3 < lv) {N : Nat} {r4 : Nat → Int → Int → Mem → Option (Int × Mem) } {l0 : Nat} {l1 : Int} {l2 : Int} {s0 : Nat} {s1 : Int} {s2 : Int} {m : Mem} {out : (Int × Mem)} (hr4 : ∀ l0 l1 l2 m, r4 l0 l1 l2 m = some out → Jd g w 4 (rmL lv 0 0) (Qm g w (some (vI out.1)) out.2) 4 [some (vR l0), some (vI l1), some (vI l2), none] [] 312 m 0 0) (h : X11_fills_J105 N r4 l0 l1 l2 s0 s1 s2 m = some out) : Jd g w 4 (rmL lv 0 0) (Qm g w (some (vI out.1)) out.2) 105 [some (vR l0), some (vI l1), some (vI l2), none] [vI s2, vI s1, vR s0] 312 m 0 0 := by
  unfold X11_fills_J105 at h
  refine j_iast C dX11_fills_105 rfl h (fun m22 h => ?_)
  refine j_iinc (ls' := [some (vR _), some (vI _), some (vI _), none]) C dX11_fills_106 rfl (by decide) rfl ?_
  refine j_goto C 4 dX11_fills_109 rfl ?_
  exact hr4 _ _ _ _ h
set_option maxRecDepth 100000 in
set_option maxHeartbeats 4000000 in
theorem X11_fills_J61_ok {g : Gm} {w : Wd} (C : Cx g w RX11 cX11_fills 4 (some .int)) {lv : Nat} (hlv : 3 < lv) {N : Nat} {r4 : Nat → Int → Int → Mem → Option (Int × Mem) } {l0 : Nat} {l1 : Int} {l2 : Int} {s0 : Nat} {s1 : Int} {s2 : Int} {m : Mem} {out : (Int × Mem)} (hr4 : ∀ l0 l1 l2 m, r4 l0 l1 l2 m = some out → Jd g w 4 (rmL lv 0 0) (Qm g w (some (vI out.1)) out.2) 4 [some (vR l0), some (vI l1), some (vI l2), none] [] 312 m 0 0) (h : X11_fills_J61 N r4 l0 l1 l2 s0 s1 s2 m = some out) : Jd g w 4 (rmL lv 0 0) (Qm g w (some (vI out.1)) out.2) 61 [some (vR l0), some (vI l1), some (vI l2), none] [vI s2, vI s1, vR s0] 312 m 0 0 := by
  unfold X11_fills_J61 at h
  refine j_iast C dX11_fills_61 rfl h (fun m10 h => ?_)
  refine j_aload_n C dX11_fills_62 rfl ?_
  refine j_getR C dX11_fills_63 CF11 (by decide) fl_X11_173 rfl rfl h (fun t11 h => ?_)
  refine j_iload_n C dX11_fills_66 rfl ?_
  refine j_aload_n C dX11_fills_67 rfl ?_
  refine j_getR C dX11_fills_68 CF11 (by decide) fl_X11_173 rfl rfl h (fun t12 h => ?_)
  refine j_iload_n C dX11_fills_71 rfl ?_
  refine j_iald C dX11_fills_72 rfl h (fun t13 h => ?_)
  refine j_aload_n C dX11_fills_73 rfl ?_
  refine j_getR C dX11_fills_74 CF11 (by decide) fl_X11_108 rfl rfl h (fun t14 h => ?_)
  refine j_aload_n C dX11_fills_77 rfl ?_
  refine j_getI C dX11_fills_78 CF11 (by decide) fl_X11_51 rfl rfl h (fun t15 h => ?_)
  refine j_iald C dX11_fills_81 rfl h (fun t16 h => ?_)
  refine j_icmp_ge C 89 dX11_fills_82 rfl h (fun c23 h => ?_) (fun c23 h => ?_)
  · refine j_aload_n C dX11_fills_89 rfl ?_
    refine j_getR C dX11_fills_90 CF11 (by decide) fl_X11_173 rfl rfl h (fun t17 h => ?_)
    refine j_iload_n C dX11_fills_93 rfl ?_
    refine j_iald C dX11_fills_94 rfl h (fun t18 h => ?_)
    refine j_aload_n C dX11_fills_95 rfl ?_
    refine j_getR C dX11_fills_96 CF11 (by decide) fl_X11_108 rfl rfl h (fun t19 h => ?_)
    refine j_aload_n C dX11_fills_99 rfl ?_
    refine j_getI C dX11_fills_100 CF11 (by decide) fl_X11_51 rfl rfl h (fun t20 h => ?_)
    refine j_iald C dX11_fills_103 rfl h (fun t21 h => ?_)
    refine j_isub C dX11_fills_104 ?_
    exact X11_fills_J105_ok C hlv hr4 h
  · refine j_iconst C dX11_fills_85 rfl ?_
    refine j_goto C 105 dX11_fills_86 rfl ?_
    exact X11_fills_J105_ok C hlv hr4 h
set_option maxRecDepth 100000 in
set_option maxHeartbeats 4000000 in
theorem X11_fills_L4_bok {g : Gm} {w : Wd} (C : Cx g w RX11 cX11_fills 4 (some .int)) {lv : Nat} (hlv : 3 < lv) {N : Nat} {k112 : Nat → Int → Mem → Option (Int × Mem)} {r4 : Nat → Int → Int → Mem → Option (Int × Mem)} {l0 : Nat} {l1 : Int} {l2 : Int} {m : Mem} {out : (Int × Mem)} (hk112 : ∀ l0 l1 m, k112 l0 l1 m = some out → Jd g w 4 (rmL lv 0 0) (Qm g w (some (vI out.1)) out.2) 112 [some (vR l0), some (vI l1), none, none] [] 312 m 0 0) (hr4 : ∀ l0 l1 l2 m, r4 l0 l1 l2 m = some out → Jd g w 4 (rmL lv 0 0) (Qm g w (some (vI out.1)) out.2) 4 [some (vR l0), some (vI l1), some (vI l2), none] [] 312 m 0 0) (h : X11_fills_L4_b N k112 r4 l0 l1 l2 m = some out) : Jd g w 4 (rmL lv 0 0) (Qm g w (some (vI out.1)) out.2) 4 [some (vR l0), some (vI l1), some (vI l2), none] [] 312 m 0 0 := by
  unfold X11_fills_L4_b at h
  refine j_iload_n C dX11_fills_4 rfl ?_
  refine j_aload_n C dX11_fills_5 rfl ?_
  refine j_getR C dX11_fills_6 CF11 (by decide) fl_X11_75 rfl rfl h (fun t1 h => ?_)
  refine j_aload_n C dX11_fills_9 rfl ?_
  refine j_getI C dX11_fills_10 CF11 (by decide) fl_X11_51 rfl rfl h (fun t2 h => ?_)
  refine j_iald C dX11_fills_13 rfl h (fun t3 h => ?_)
  refine j_icmp_ge C 112 dX11_fills_14 rfl h (fun c25 h => ?_) (fun c25 h => ?_)
  · refine j_mask [true, true, false, false] (ls' := [some (vR _), some (vI _), none, none]) rfl ?_
    exact hk112 _ _ _ h
  · refine j_aload_n C dX11_fills_17 rfl ?_
    refine j_iconst C dX11_fills_18 rfl ?_
    refine j_iload_n C dX11_fills_19 rfl ?_
    obtain ⟨p4, ep4, h⟩ := bind_some h
    have qp4 := X11_comes_ct ep4
    refine j_cVI C dX11_fills_20 vl_X11_550 CF11 rfl qp4.1 qp4.2 (by omega) rfl rfl (Nat.le_of_ble_eq_true rfl) ?_
    refine j_istore_n (ls' := [some (vR _), some (vI _), some (vI _), some (vI _)]) C dX11_fills_23 (by decide) rfl ?_
    refine j_iload_n C dX11_fills_24 rfl ?_
    refine j_iload_n C dX11_fills_25 rfl ?_
    refine j_iadd C dX11_fills_26 ?_
    refine j_istore_n (ls' := [some (vR _), some (vI _), some (vI _), some (vI _)]) C dX11_fills_27 (by decide) rfl ?_
    refine j_aload_n C dX11_fills_28 rfl ?_
    refine j_getR C dX11_fills_29 CF11 (by decide) fl_X11_173 rfl rfl h (fun t5 h => ?_)
    refine j_iload_n C dX11_fills_32 rfl ?_
    refine j_aload_n C dX11_fills_33 rfl ?_
    refine j_getR C dX11_fills_34 CF11 (by decide) fl_X11_173 rfl rfl h (fun t6 h => ?_)
    refine j_iload_n C dX11_fills_37 rfl ?_
    refine j_iald C dX11_fills_38 rfl h (fun t7 h => ?_)
    refine j_iload_n C dX11_fills_39 rfl ?_
    refine j_iadd C dX11_fills_40 ?_
    refine j_sipush C dX11_fills_41 rfl ?_
    refine j_icmp_le C 53 dX11_fills_44 rfl h (fun c24 h => ?_) (fun c24 h => ?_)
    · refine j_aload_n C dX11_fills_53 rfl ?_
      refine j_getR C dX11_fills_54 CF11 (by decide) fl_X11_173 rfl rfl h (fun t8 h => ?_)
      refine j_iload_n C dX11_fills_57 rfl ?_
      refine j_iald C dX11_fills_58 rfl h (fun t9 h => ?_)
      refine j_iload_n C dX11_fills_59 rfl ?_
      refine j_iadd C dX11_fills_60 ?_
      refine j_mask [true, true, true, false] (ls' := [some (vR _), some (vI _), some (vI _), none]) rfl ?_
      exact X11_fills_J61_ok C hlv hr4 h
    · refine j_sipush C dX11_fills_47 rfl ?_
      refine j_goto C 61 dX11_fills_50 rfl ?_
      refine j_mask [true, true, true, false] (ls' := [some (vR _), some (vI _), some (vI _), none]) rfl ?_
      exact X11_fills_J61_ok C hlv hr4 h
set_option maxRecDepth 100000 in
set_option maxHeartbeats 4000000 in
theorem X11_fills_L4_ok {g : Gm} {w : Wd} (C : Cx g w RX11 cX11_fills 4 (some .int)) {lv : Nat} (hlv : 3 < lv) {N : Nat} {k112 : Nat → Int → Mem → Option (Int × Mem)} {out : (Int × Mem)} (hk112 : ∀ l0 l1 m, k112 l0 l1 m = some out → Jd g w 4 (rmL lv 0 0) (Qm g w (some (vI out.1)) out.2) 112 [some (vR l0), some (vI l1), none, none] [] 312 m 0 0) (f : Nat) : ∀ {l0 : Nat} {l1 : Int} {l2 : Int} {m : Mem}, X11_fills_L4 N k112 f l0 l1 l2 m = some out → Jd g w 4 (rmL lv 0 0) (Qm g w (some (vI out.1)) out.2) 4 [some (vR l0), some (vI l1), some (vI l2), none] [] 312 m 0 0 := by
  induction f with
  | zero => intro l0 l1 l2 m h; exact none_ne (α := (Int × Mem)) h
  | succ f ih => intro l0 l1 l2 m h; exact X11_fills_L4_bok C hlv hk112 (fun l0 l1 l2 m h => ih h) h
set_option maxRecDepth 100000 in
set_option maxHeartbeats 4000000 in
theorem X11_fills_ct {N : Nat} {l0 : Nat} {m : Mem} {out : (Int × Mem)} (h : X11_fills N l0 m = some out) : shK l0 = 11 + 10 ∧ CT yX11_fills cX11_fills 4 (some .int) 4 0 0 [vR l0] 312 m (some (vI out.1)) 312 out.2 := by
  unfold X11_fills at h
  obtain ⟨hK, h⟩ := ite_some h
  have hlv : 3 < 4 := by decide
  refine ⟨hK, CT.of (by decide +kernel) rfl (Nat.le_of_ble_eq_true rfl) (ls := [some (vR l0), none, none, none]) rfl fun g w C _ => ?_⟩
  refine j_iconst C dX11_fills_0 rfl ?_
  refine j_istore_n (ls' := [some (vR _), some (vI _), none, none]) C dX11_fills_1 (by decide) rfl ?_
  refine j_iconst C dX11_fills_2 rfl ?_
  refine j_istore_n (ls' := [some (vR _), some (vI _), some (vI _), none]) C dX11_fills_3 (by decide) rfl ?_
  refine X11_fills_L4_ok C hlv (fun z26 z27 m28 h => ?_) N h
  refine j_aload_n C dX11_fills_112 rfl ?_
  refine j_getR C dX11_fills_113 CF11 (by decide) fl_X11_164 rfl rfl h (fun t29 h => ?_)
  refine j_iconst C dX11_fills_116 rfl ?_
  refine j_dup2 C dX11_fills_117 rfl rfl ?_
  refine j_iald C dX11_fills_118 rfl h (fun t30 h => ?_)
  refine j_iconst C dX11_fills_119 rfl ?_
  refine j_iadd C dX11_fills_120 ?_
  refine j_iast C dX11_fills_121 rfl h (fun m31 h => ?_)
  refine j_iload_n C dX11_fills_122 rfl ?_
  have e := Option.some.inj h
  subst e
  exact j_ri C dX11_fills_123 rfl rfl rfl
theorem dX11_findsFirst_0 : decode cX11_findsFirst 0 = .ok (.iconst 0, 1) := by decide +kernel
theorem dX11_findsFirst_1 : decode cX11_findsFirst 1 = .ok (.istore_n 2, 1) := by decide +kernel
theorem dX11_findsFirst_2 : decode cX11_findsFirst 2 = .ok (.aload_n 0, 1) := by decide +kernel
theorem dX11_findsFirst_3 : decode cX11_findsFirst 3 = .ok (.iload_n 2, 1) := by decide +kernel
theorem dX11_findsFirst_4 : decode cX11_findsFirst 4 = .ok (.invokevirtual 605, 3) := by decide +kernel
theorem dX11_findsFirst_7 : decode cX11_findsFirst 7 = .ok (.ifCond .ne 9, 3) := by decide +kernel
theorem dX11_findsFirst_10 : decode cX11_findsFirst 10 = .ok (.iinc 2 1, 3) := by decide +kernel
theorem dX11_findsFirst_13 : decode cX11_findsFirst 13 = .ok (.goto (-11), 3) := by decide +kernel
theorem dX11_findsFirst_16 : decode cX11_findsFirst 16 = .ok (.iconst 1, 1) := by decide +kernel
theorem dX11_findsFirst_17 : decode cX11_findsFirst 17 = .ok (.iload_n 2, 1) := by decide +kernel
theorem dX11_findsFirst_18 : decode cX11_findsFirst 18 = .ok (.ishl, 1) := by decide +kernel
theorem dX11_findsFirst_19 : decode cX11_findsFirst 19 = .ok (.istore_n 3, 1) := by decide +kernel
theorem dX11_findsFirst_20 : decode cX11_findsFirst 20 = .ok (.aload_n 0, 1) := by decide +kernel
theorem dX11_findsFirst_21 : decode cX11_findsFirst 21 = .ok (.getfield 233, 3) := by decide +kernel
theorem dX11_findsFirst_24 : decode cX11_findsFirst 24 = .ok (.iconst 0, 1) := by decide +kernel
theorem dX11_findsFirst_25 : decode cX11_findsFirst 25 = .ok (.aload_n 0, 1) := by decide +kernel
theorem dX11_findsFirst_26 : decode cX11_findsFirst 26 = .ok (.getfield 236, 3) := by decide +kernel
theorem dX11_findsFirst_29 : decode cX11_findsFirst 29 = .ok (.iload_n 2, 1) := by decide +kernel
theorem dX11_findsFirst_30 : decode cX11_findsFirst 30 = .ok (.iaload, 1) := by decide +kernel
theorem dX11_findsFirst_31 : decode cX11_findsFirst 31 = .ok (.iastore, 1) := by decide +kernel
theorem dX11_findsFirst_32 : decode cX11_findsFirst 32 = .ok (.iconst 1, 1) := by decide +kernel
theorem dX11_findsFirst_33 : decode cX11_findsFirst 33 = .ok (.istore 4, 2) := by decide +kernel
theorem dX11_findsFirst_35 : decode cX11_findsFirst 35 = .ok (.iload 4, 2) := by decide +kernel
theorem dX11_findsFirst_37 : decode cX11_findsFirst 37 = .ok (.iload_n 1, 1) := by decide +kernel
theorem dX11_findsFirst_38 : decode cX11_findsFirst 38 = .ok (.if_icmp .ge 91, 3) := by decide +kernel
theorem dX11_findsFirst_41 : decode cX11_findsFirst 41 = .ok (.iconst 0, 1) := by decide +kernel
theorem dX11_findsFirst_42 : decode cX11_findsFirst 42 = .ok (.istore 5, 2) := by decide +kernel
theorem dX11_findsFirst_44 : decode cX11_findsFirst 44 = .ok (.iload_n 3, 1) := by decide +kernel
theorem dX11_findsFirst_45 : decode cX11_findsFirst 45 = .ok (.iload 5, 2) := by decide +kernel
theorem dX11_findsFirst_47 : decode cX11_findsFirst 47 = .ok (.ishr, 1) := by decide +kernel
theorem dX11_findsFirst_48 : decode cX11_findsFirst 48 = .ok (.iconst 1, 1) := by decide +kernel
theorem dX11_findsFirst_49 : decode cX11_findsFirst 49 = .ok (.iand, 1) := by decide +kernel
theorem dX11_findsFirst_50 : decode cX11_findsFirst 50 = .ok (.iconst 1, 1) := by decide +kernel
theorem dX11_findsFirst_51 : decode cX11_findsFirst 51 = .ok (.if_icmp .eq 43, 3) := by decide +kernel
theorem dX11_findsFirst_54 : decode cX11_findsFirst 54 = .ok (.aload_n 0, 1) := by decide +kernel
theorem dX11_findsFirst_55 : decode cX11_findsFirst 55 = .ok (.aload_n 0, 1) := by decide +kernel
theorem dX11_findsFirst_56 : decode cX11_findsFirst 56 = .ok (.getfield 236, 3) := by decide +kernel
theorem dX11_findsFirst_59 : decode cX11_findsFirst 59 = .ok (.iload_n 2, 1) := by decide +kernel
theorem dX11_findsFirst_60 : decode cX11_findsFirst 60 = .ok (.iaload, 1) := by decide +kernel
theorem dX11_findsFirst_61 : decode cX11_findsFirst 61 = .ok (.aload_n 0, 1) := by decide +kernel
theorem dX11_findsFirst_62 : decode cX11_findsFirst 62 = .ok (.getfield 236, 3) := by decide +kernel
theorem dX11_findsFirst_65 : decode cX11_findsFirst 65 = .ok (.iload 5, 2) := by decide +kernel
theorem dX11_findsFirst_67 : decode cX11_findsFirst 67 = .ok (.iaload, 1) := by decide +kernel
theorem dX11_findsFirst_68 : decode cX11_findsFirst 68 = .ok (.invokevirtual 599, 3) := by decide +kernel
theorem dX11_findsFirst_71 : decode cX11_findsFirst 71 = .ok (.ifCond .eq 23, 3) := by decide +kernel
theorem dX11_findsFirst_74 : decode cX11_findsFirst 74 = .ok (.aload_n 0, 1) := by decide +kernel
theorem dX11_findsFirst_75 : decode cX11_findsFirst 75 = .ok (.getfield 239, 3) := by decide +kernel
theorem dX11_findsFirst_78 : decode cX11_findsFirst 78 = .ok (.bipush 10, 2) := by decide +kernel
theorem dX11_findsFirst_80 : decode cX11_findsFirst 80 = .ok (.iload_n 3, 1) := by decide +kernel
theorem dX11_findsFirst_81 : decode cX11_findsFirst 81 = .ok (.iconst 1, 1) := by decide +kernel
theorem dX11_findsFirst_82 : decode cX11_findsFirst 82 = .ok (.iload 5, 2) := by decide +kernel
theorem dX11_findsFirst_84 : decode cX11_findsFirst 84 = .ok (.ishl, 1) := by decide +kernel
theorem dX11_findsFirst_85 : decode cX11_findsFirst 85 = .ok (.ior, 1) := by decide +kernel
theorem dX11_findsFirst_86 : decode cX11_findsFirst 86 = .ok (.imul, 1) := by decide +kernel
theorem dX11_findsFirst_87 : decode cX11_findsFirst 87 = .ok (.iload 5, 2) := by decide +kernel
theorem dX11_findsFirst_89 : decode cX11_findsFirst 89 = .ok (.iadd, 1) := by decide +kernel
theorem dX11_findsFirst_90 : decode cX11_findsFirst 90 = .ok (.iaload, 1) := by decide +kernel
theorem dX11_findsFirst_91 : decode cX11_findsFirst 91 = .ok (.ifCond .ne 9, 3) := by decide +kernel
theorem dX11_findsFirst_94 : decode cX11_findsFirst 94 = .ok (.iinc 5 1, 3) := by decide +kernel
theorem dX11_findsFirst_97 : decode cX11_findsFirst 97 = .ok (.goto (-53), 3) := by decide +kernel
theorem dX11_findsFirst_100 : decode cX11_findsFirst 100 = .ok (.iload_n 3, 1) := by decide +kernel
theorem dX11_findsFirst_101 : decode cX11_findsFirst 101 = .ok (.iconst 1, 1) := by decide +kernel
theorem dX11_findsFirst_102 : decode cX11_findsFirst 102 = .ok (.iload 5, 2) := by decide +kernel
theorem dX11_findsFirst_104 : decode cX11_findsFirst 104 = .ok (.ishl, 1) := by decide +kernel
theorem dX11_findsFirst_105 : decode cX11_findsFirst 105 = .ok (.ior, 1) := by decide +kernel
theorem dX11_findsFirst_106 : decode cX11_findsFirst 106 = .ok (.istore_n 3, 1) := by decide +kernel
theorem dX11_findsFirst_107 : decode cX11_findsFirst 107 = .ok (.iload 5, 2) := by decide +kernel
theorem dX11_findsFirst_109 : decode cX11_findsFirst 109 = .ok (.istore_n 2, 1) := by decide +kernel
theorem dX11_findsFirst_110 : decode cX11_findsFirst 110 = .ok (.aload_n 0, 1) := by decide +kernel
theorem dX11_findsFirst_111 : decode cX11_findsFirst 111 = .ok (.getfield 233, 3) := by decide +kernel
theorem dX11_findsFirst_114 : decode cX11_findsFirst 114 = .ok (.iload 4, 2) := by decide +kernel
theorem dX11_findsFirst_116 : decode cX11_findsFirst 116 = .ok (.aload_n 0, 1) := by decide +kernel
theorem dX11_findsFirst_117 : decode cX11_findsFirst 117 = .ok (.getfield 236, 3) := by decide +kernel
theorem dX11_findsFirst_120 : decode cX11_findsFirst 120 = .ok (.iload_n 2, 1) := by decide +kernel
theorem dX11_findsFirst_121 : decode cX11_findsFirst 121 = .ok (.iaload, 1) := by decide +kernel
theorem dX11_findsFirst_122 : decode cX11_findsFirst 122 = .ok (.iastore, 1) := by decide +kernel
theorem dX11_findsFirst_123 : decode cX11_findsFirst 123 = .ok (.iinc 4 1, 3) := by decide +kernel
theorem dX11_findsFirst_126 : decode cX11_findsFirst 126 = .ok (.goto (-91), 3) := by decide +kernel
theorem dX11_findsFirst_129 : decode cX11_findsFirst 129 = .ok (.return_, 1) := by decide +kernel
set_option maxRecDepth 100000 in
set_option maxHeartbeats 4000000 in
theorem X11_findsFirst_L2_bok {g : Gm} {w : Wd} (C : Cx g w RX11 cX11_findsFirst 6 none) {lv : Nat} (hlv : 2 < lv) {N : Nat} {k16 : Nat → Int → Int → Mem → Option Mem} {r2 : Nat → Int → Int → Mem → Option Mem} {l0 : Nat} {l1 : Int} {l2 : Int} {m : Mem} {out : Mem} (hk16 : ∀ l0 l1 l2 m, k16 l0 l1 l2 m = some out → Jd g w 6 (rmL lv 0 0) (Qm g w none out) 16 [some (vR l0), some (vI l1), some (vI l2), none, none, none] [] 312 m 0 0) (hr2 : ∀ l0 l1 l2 m, r2 l0 l1 l2 m = some out → Jd g w 6 (rmL lv 0 0) (Qm g w none out) 2 [some (vR l0), some (vI l1), some (vI l2), none, none, none] [] 312 m 0 0) (h : X11_findsFirst_L2_b N k16 r2 l0 l1 l2 m = some out) : Jd g w 6 (rmL lv 0 0) (Qm g w none out) 2 [some (vR l0), some (vI l1), some (vI l2), none, none, none] [] 312 m 0 0 := by
  unfold X11_findsFirst_L2_b at h
  refine j_aload_n C dX11_findsFirst_2 rfl ?_
  refine j_iload_n C dX11_findsFirst_3 rfl ?_
  obtain ⟨p1, ep1, h⟩ := bind_some h
  have qp1 := X11_canBegin_ct ep1
  refine j_cVI C dX11_findsFirst_4 vl_X11_605 CF11 rfl qp1.1 qp1.2 (by omega) rfl rfl (Nat.le_of_ble_eq_true rfl) ?_
  refine j_if_ne C 16 dX11_findsFirst_7 rfl h (fun c2 h => ?_) (fun c2 h => ?_)
  · exact hk16 _ _ _ _ h
  · refine j_iinc (ls' := [some (vR _), some (vI _), some (vI _), none, none, none]) C dX11_findsFirst_10 rfl (by decide) rfl ?_
    refine j_goto C 2 dX11_findsFirst_13 rfl ?_
    exact hr2 _ _ _ _ h
set_option maxRecDepth 100000 in
set_option maxHeartbeats 4000000 in
theorem X11_findsFirst_L2_ok {g : Gm} {w : Wd} (C : Cx g w RX11 cX11_findsFirst 6 none) {lv : Nat} (hlv : 2 < lv) {N : Nat} {k16 : Nat → Int → Int → Mem → Option Mem} {out : Mem} (hk16 : ∀ l0 l1 l2 m, k16 l0 l1 l2 m = some out → Jd g w 6 (rmL lv 0 0) (Qm g w none out) 16 [some (vR l0), some (vI l1), some (vI l2), none, none, none] [] 312 m 0 0) (f : Nat) : ∀ {l0 : Nat} {l1 : Int} {l2 : Int} {m : Mem}, X11_findsFirst_L2 N k16 f l0 l1 l2 m = some out → Jd g w 6 (rmL lv 0 0) (Qm g w none out) 2 [some (vR l0), some (vI l1), some (vI l2), none, none, none] [] 312 m 0 0 := by
  induction f with
  | zero => intro l0 l1 l2 m h; exact none_ne (α := Mem) h
  | succ f ih => intro l0 l1 l2 m h; exact X11_findsFirst_L2_bok C hlv hk16 (fun l0 l1 l2 m h => ih h) h
set_option maxRecDepth 100000 in
set_option maxHeartbeats 4000000 in
theorem X11_findsFirst_J94_ok {g : Gm} {w : Wd} (C : Cx g w RX11 cX11_findsFirst 6 none) {lv : Nat} (hlv : 2 < lv) {N : Nat} {r44 : Nat → Int → Int → Int → Int → Int → Mem → Option Mem } {l0 : Nat} {l1 : Int} {l2 : Int} {l3 : Int} {l4 : Int} {l5 : Int} {m : Mem} {out : Mem} (hr44 : ∀ l0 l1 l2 l3 l4 l5 m, r44 l0 l1 l2 l3 l4 l5 m = some out → Jd g w 6 (rmL lv 0 0) (Qm g w none out) 44 [some (vR l0), some (vI l1), some (vI l2), some (vI l3), some (vI l4), some (vI l5)] [] 312 m 0 0) (h : X11_findsFirst_J94 N r44 l0 l1 l2 l3 l4 l5 m = some out) : Jd g w 6 (rmL lv 0 0) (Qm g w none out) 94 [some (vR l0), some (vI l1), some (vI l2), some (vI l3), some (vI l4), some (vI l5)] [] 312 m 0 0 := by
  unfold X11_findsFirst_J94 at h
  refine j_iinc (ls' := [some (vR _), some (vI _), some (vI _), some (vI _), some (vI _), some (vI _)]) C dX11_findsFirst_94 rfl (by decide) rfl ?_
  refine j_goto C 44 dX11_findsFirst_97 rfl ?_
  exact hr44 _ _ _ _ _ _ _ h
set_option maxRecDepth 100000 in
set_option maxHeartbeats 4000000 in
theorem X11_findsFirst_L44_bok {g : Gm} {w : Wd} (C : Cx g w RX11 cX11_findsFirst 6 none) {lv : Nat} (hlv : 2 < lv) {N : Nat} {r35 : Nat → Int → Int → Int → Int → Mem → Option Mem} {r44 : Nat → Int → Int → Int → Int → Int → Mem → Option Mem} {l0 : Nat} {l1 : Int} {l2 : Int} {l3 : Int} {l4 : Int} {l5 : Int} {m : Mem} {out : Mem} (hr35 : ∀ l0 l1 l2 l3 l4 m, r35 l0 l1 l2 l3 l4 m = some out → Jd g w 6 (rmL lv 0 0) (Qm g w none out) 35 [some (vR l0), some (vI l1), some (vI l2), some (vI l3), some (vI l4), none] [] 312 m 0 0) (hr44 : ∀ l0 l1 l2 l3 l4 l5 m, r44 l0 l1 l2 l3 l4 l5 m = some out → Jd g w 6 (rmL lv 0 0) (Qm g w none out) 44 [some (vR l0), some (vI l1), some (vI l2), some (vI l3), some (vI l4), some (vI l5)] [] 312 m 0 0) (h : X11_findsFirst_L44_b N r35 r44 l0 l1 l2 l3 l4 l5 m = some out) : Jd g w 6 (rmL lv 0 0) (Qm g w none out) 44 [some (vR l0), some (vI l1), some (vI l2), some (vI l3), some (vI l4), some (vI l5)] [] 312 m 0 0 := by
  unfold X11_findsFirst_L44_b at h
  refine j_iload_n C dX11_findsFirst_44 rfl ?_
  refine j_iload C dX11_findsFirst_45 rfl ?_
  refine j_ishr C dX11_findsFirst_47 ?_
  refine j_iconst C dX11_findsFirst_48 rfl ?_
  refine j_iand C dX11_findsFirst_49 ?_
  refine j_iconst C dX11_findsFirst_50 rfl ?_
  refine j_icmp_eq C 94 dX11_findsFirst_51 rfl h (fun c24 h => ?_) (fun c24 h => ?_)
  · exact X11_findsFirst_J94_ok C hlv hr44 h
  · refine j_aload_n C dX11_findsFirst_54 rfl ?_
    refine j_aload_n C dX11_findsFirst_55 rfl ?_
    refine j_getR C dX11_findsFirst_56 CF11 (by decide) fl_X11_236 rfl rfl h (fun t11 h => ?_)
    refine j_iload_n C dX11_findsFirst_59 rfl ?_
    refine j_iald C dX11_findsFirst_60 rfl h (fun t12 h => ?_)
    refine j_aload_n C dX11_findsFirst_61 rfl ?_
    refine j_getR C dX11_findsFirst_62 CF11 (by decide) fl_X11_236 rfl rfl h (fun t13 h => ?_)
    refine j_iload C dX11_findsFirst_65 rfl ?_
    refine j_iald C dX11_findsFirst_67 rfl h (fun t14 h => ?_)
    obtain ⟨p15, ep15, h⟩ := bind_some h
    have qp15 := X11_isStep_ct ep15
    refine j_cVI C dX11_findsFirst_68 vl_X11_599 CF11 rfl qp15.1 qp15.2 (by omega) rfl rfl (Nat.le_of_ble_eq_true rfl) ?_
    refine j_if_eq C 94 dX11_findsFirst_71 rfl h (fun c23 h => ?_) (fun c23 h => ?_)
    · exact X11_findsFirst_J94_ok C hlv hr44 h
    · refine j_aload_n C dX11_findsFirst_74 rfl ?_
      refine j_getR C dX11_findsFirst_75 CF11 (by decide) fl_X11_239 rfl rfl h (fun t16 h => ?_)
      refine j_bipush C dX11_findsFirst_78 rfl ?_
      refine j_iload_n C dX11_findsFirst_80 rfl ?_
      refine j_iconst C dX11_findsFirst_81 rfl ?_
      refine j_iload C dX11_findsFirst_82 rfl ?_
      refine j_ishl C dX11_findsFirst_84 ?_
      refine j_ior C dX11_findsFirst_85 ?_
      refine j_imul C dX11_findsFirst_86 ?_
      refine j_iload C dX11_findsFirst_87 rfl ?_
      refine j_iadd C dX11_findsFirst_89 ?_
      refine j_iald C dX11_findsFirst_90 rfl h (fun t17 h => ?_)
      refine j_if_ne C 100 dX11_findsFirst_91 rfl h (fun c22 h => ?_) (fun c22 h => ?_)
      · refine j_iload_n C dX11_findsFirst_100 rfl ?_
        refine j_iconst C dX11_findsFirst_101 rfl ?_
        refine j_iload C dX11_findsFirst_102 rfl ?_
        refine j_ishl C dX11_findsFirst_104 ?_
        refine j_ior C dX11_findsFirst_105 ?_
        refine j_istore_n (ls' := [some (vR _), some (vI _), some (vI _), some (vI _), some (vI _), some (vI _)]) C dX11_findsFirst_106 (by decide) rfl ?_
        refine j_iload C dX11_findsFirst_107 rfl ?_
        refine j_istore_n (ls' := [some (vR _), some (vI _), some (vI _), some (vI _), some (vI _), some (vI _)]) C dX11_findsFirst_109 (by decide) rfl ?_
        refine j_aload_n C dX11_findsFirst_110 rfl ?_
        refine j_getR C dX11_findsFirst_111 CF11 (by decide) fl_X11_233 rfl rfl h (fun t18 h => ?_)
        refine j_iload C dX11_findsFirst_114 rfl ?_
        refine j_aload_n C dX11_findsFirst_116 rfl ?_
        refine j_getR C dX11_findsFirst_117 CF11 (by decide) fl_X11_236 rfl rfl h (fun t19 h => ?_)
        refine j_iload_n C dX11_findsFirst_120 rfl ?_
        refine j_iald C dX11_findsFirst_121 rfl h (fun t20 h => ?_)
        refine j_iast C dX11_findsFirst_122 rfl h (fun m21 h => ?_)
        refine j_iinc (ls' := [some (vR _), some (vI _), some (vI _), some (vI _), some (vI _), some (vI _)]) C dX11_findsFirst_123 rfl (by decide) rfl ?_
        refine j_goto C 35 dX11_findsFirst_126 rfl ?_
        refine j_mask [true, true, true, true, true, false] (ls' := [some (vR _), some (vI _), some (vI _), some (vI _), some (vI _), none]) rfl ?_
        exact hr35 _ _ _ _ _ _ h
      · exact X11_findsFirst_J94_ok C hlv hr44 h
set_option maxRecDepth 100000 in
set_option maxHeartbeats 4000000 in
theorem X11_findsFirst_L44_ok {g : Gm} {w : Wd} (C : Cx g w RX11 cX11_findsFirst 6 none) {lv : Nat} (hlv : 2 < lv) {N : Nat} {r35 : Nat → Int → Int → Int → Int → Mem → Option Mem} {out : Mem} (hr35 : ∀ l0 l1 l2 l3 l4 m, r35 l0 l1 l2 l3 l4 m = some out → Jd g w 6 (rmL lv 0 0) (Qm g w none out) 35 [some (vR l0), some (vI l1), some (vI l2), some (vI l3), some (vI l4), none] [] 312 m 0 0) (f : Nat) : ∀ {l0 : Nat} {l1 : Int} {l2 : Int} {l3 : Int} {l4 : Int} {l5 : Int} {m : Mem}, X11_findsFirst_L44 N r35 f l0 l1 l2 l3 l4 l5 m = some out → Jd g w 6 (rmL lv 0 0) (Qm g w none out) 44 [some (vR l0), some (vI l1), some (vI l2), some (vI l3), some (vI l4), some (vI l5)] [] 312 m 0 0 := by
  induction f with
  | zero => intro l0 l1 l2 l3 l4 l5 m h; exact none_ne (α := Mem) h
  | succ f ih => intro l0 l1 l2 l3 l4 l5 m h; exact X11_findsFirst_L44_bok C hlv hr35 (fun l0 l1 l2 l3 l4 l5 m h => ih h) h
set_option maxRecDepth 100000 in
set_option maxHeartbeats 4000000 in
theorem X11_findsFirst_L35_bok {g : Gm} {w : Wd} (C : Cx g w RX11 cX11_findsFirst 6 none) {lv : Nat} (hlv : 2 < lv) {N : Nat} {r35 : Nat → Int → Int → Int → Int → Mem → Option Mem} {l0 : Nat} {l1 : Int} {l2 : Int} {l3 : Int} {l4 : Int} {m : Mem} {out : Mem} (hr35 : ∀ l0 l1 l2 l3 l4 m, r35 l0 l1 l2 l3 l4 m = some out → Jd g w 6 (rmL lv 0 0) (Qm g w none out) 35 [some (vR l0), some (vI l1), some (vI l2), some (vI l3), some (vI l4), none] [] 312 m 0 0) (h : X11_findsFirst_L35_b N r35 l0 l1 l2 l3 l4 m = some out) : Jd g w 6 (rmL lv 0 0) (Qm g w none out) 35 [some (vR l0), some (vI l1), some (vI l2), some (vI l3), some (vI l4), none] [] 312 m 0 0 := by
  unfold X11_findsFirst_L35_b at h
  refine j_iload C dX11_findsFirst_35 rfl ?_
  refine j_iload_n C dX11_findsFirst_37 rfl ?_
  refine j_icmp_ge C 129 dX11_findsFirst_38 rfl h (fun c25 h => ?_) (fun c25 h => ?_)
  · have e := Option.some.inj h
    subst e
    exact j_rv C dX11_findsFirst_129 rfl rfl
  · refine j_iconst C dX11_findsFirst_41 rfl ?_
    refine j_istore (ls' := [some (vR _), some (vI _), some (vI _), some (vI _), some (vI _), some (vI _)]) C dX11_findsFirst_42 (by decide) rfl ?_
    exact X11_findsFirst_L44_ok C hlv hr35 N h
set_option maxRecDepth 100000 in
set_option maxHeartbeats 4000000 in
theorem X11_findsFirst_L35_ok {g : Gm} {w : Wd} (C : Cx g w RX11 cX11_findsFirst 6 none) {lv : Nat} (hlv : 2 < lv) {N : Nat} {out : Mem} (f : Nat) : ∀ {l0 : Nat} {l1 : Int} {l2 : Int} {l3 : Int} {l4 : Int} {m : Mem}, X11_findsFirst_L35 N f l0 l1 l2 l3 l4 m = some out → Jd g w 6 (rmL lv 0 0) (Qm g w none out) 35 [some (vR l0), some (vI l1), some (vI l2), some (vI l3), some (vI l4), none] [] 312 m 0 0 := by
  induction f with
  | zero => intro l0 l1 l2 l3 l4 m h; exact none_ne (α := Mem) h
  | succ f ih => intro l0 l1 l2 l3 l4 m h; exact X11_findsFirst_L35_bok C hlv (fun l0 l1 l2 l3 l4 m h => ih h) h
set_option maxRecDepth 100000 in
set_option maxHeartbeats 4000000 in
theorem X11_findsFirst_ct {N : Nat} {l0 : Nat} {l1 : Int} {m : Mem} {out : Mem} (h : X11_findsFirst N l0 l1 m = some out) : shK l0 = 11 + 10 ∧ CT yX11_findsFirst cX11_findsFirst 6 none 3 0 0 [vR l0, vI l1] 312 m none 312 out := by
  unfold X11_findsFirst at h
  obtain ⟨hK, h⟩ := ite_some h
  have hlv : 2 < 3 := by decide
  refine ⟨hK, CT.of (by decide +kernel) rfl (Nat.le_of_ble_eq_true rfl) (ls := [some (vR l0), some (vI l1), none, none, none, none]) rfl fun g w C _ => ?_⟩
  refine j_iconst C dX11_findsFirst_0 rfl ?_
  refine j_istore_n (ls' := [some (vR _), some (vI _), some (vI _), none, none, none]) C dX11_findsFirst_1 (by decide) rfl ?_
  refine X11_findsFirst_L2_ok C hlv (fun z3 z4 z5 m6 h => ?_) N h
  refine j_iconst C dX11_findsFirst_16 rfl ?_
  refine j_iload_n C dX11_findsFirst_17 rfl ?_
  refine j_ishl C dX11_findsFirst_18 ?_
  refine j_istore_n (ls' := [some (vR _), some (vI _), some (vI _), some (vI _), none, none]) C dX11_findsFirst_19 (by decide) rfl ?_
  refine j_aload_n C dX11_findsFirst_20 rfl ?_
  refine j_getR C dX11_findsFirst_21 CF11 (by decide) fl_X11_233 rfl rfl h (fun t7 h => ?_)
  refine j_iconst C dX11_findsFirst_24 rfl ?_
  refine j_aload_n C dX11_findsFirst_25 rfl ?_
  refine j_getR C dX11_findsFirst_26 CF11 (by decide) fl_X11_236 rfl rfl h (fun t8 h => ?_)
  refine j_iload_n C dX11_findsFirst_29 rfl ?_
  refine j_iald C dX11_findsFirst_30 rfl h (fun t9 h => ?_)
  refine j_iast C dX11_findsFirst_31 rfl h (fun m10 h => ?_)
  refine j_iconst C dX11_findsFirst_32 rfl ?_
  refine j_istore (ls' := [some (vR _), some (vI _), some (vI _), some (vI _), some (vI _), none]) C dX11_findsFirst_33 (by decide) rfl ?_
  exact X11_findsFirst_L35_ok C hlv N h
theorem dX11_must_0 : decode cX11_must 0 = .ok (.aload_n 0, 1) := by decide +kernel
theorem dX11_must_1 : decode cX11_must 1 = .ok (.invokevirtual 271, 3) := by decide +kernel
theorem dX11_must_4 : decode cX11_must 4 = .ok (.aload_n 0, 1) := by decide +kernel
theorem dX11_must_5 : decode cX11_must 5 = .ok (.iload_n 1, 1) := by decide +kernel
theorem dX11_must_6 : decode cX11_must 6 = .ok (.invokevirtual 274, 3) := by decide +kernel
theorem dX11_must_9 : decode cX11_must 9 = .ok (.ifCond .ne 12, 3) := by decide +kernel
theorem dX11_must_12 : decode cX11_must 12 = .ok (.aload_n 0, 1) := by decide +kernel
theorem dX11_must_13 : decode cX11_must 13 = .ok (.iconst 1, 1) := by decide +kernel
theorem dX11_must_14 : decode cX11_must 14 = .ok (.aload_n 0, 1) := by decide +kernel
theorem dX11_must_15 : decode cX11_must 15 = .ok (.getfield 23, 3) := by decide +kernel
theorem dX11_must_18 : decode cX11_must 18 = .ok (.invokevirtual 256, 3) := by decide +kernel
theorem dX11_must_21 : decode cX11_must 21 = .ok (.aload_n 0, 1) := by decide +kernel
theorem dX11_must_22 : decode cX11_must 22 = .ok (.getfield 36, 3) := by decide +kernel
theorem dX11_must_25 : decode cX11_must 25 = .ok (.ifCond .ne 7, 3) := by decide +kernel
theorem dX11_must_28 : decode cX11_must 28 = .ok (.aload_n 0, 1) := by decide +kernel
theorem dX11_must_29 : decode cX11_must 29 = .ok (.invokevirtual 277, 3) := by decide +kernel
theorem dX11_must_32 : decode cX11_must 32 = .ok (.return_, 1) := by decide +kernel
set_option maxRecDepth 100000 in
set_option maxHeartbeats 4000000 in
theorem X11_must_J21_ok {g : Gm} {w : Wd} (C : Cx g w RX11 cX11_must 2 none) {lv : Nat} (hlv : 2 < lv) {N : Nat} {l0 : Nat} {m : Mem} {out : Mem} (h : X11_must_J21 N l0 m = some out) : Jd g w 2 (rmL lv 0 0) (Qm g w none out) 21 [some (vR l0), none] [] 312 m 0 0 := by
  unfold X11_must_J21 at h
  refine j_aload_n C dX11_must_21 rfl ?_
  refine j_getI C dX11_must_22 CF11 (by decide) fl_X11_36 rfl rfl h (fun t3 h => ?_)
  refine j_if_ne C 32 dX11_must_25 rfl h (fun c5 h => ?_) (fun c5 h => ?_)
  · have e := Option.some.inj h
    subst e
    exact j_rv C dX11_must_32 rfl rfl
  · refine j_aload_n C dX11_must_28 rfl ?_
    obtain ⟨p4, ep4, h⟩ := bind_some h
    have qp4 := X11_ahead_ct ep4
    refine j_cVV C dX11_must_29 vl_X11_277 CF11 rfl qp4.1 qp4.2 (by omega) rfl rfl (Nat.le_of_ble_eq_true rfl) ?_
    have e := Option.some.inj h
    subst e
    exact j_rv C dX11_must_32 rfl rfl
set_option maxRecDepth 100000 in
set_option maxHeartbeats 4000000 in
theorem X11_must_ct {N : Nat} {l0 : Nat} {l1 : Int} {m : Mem} {out : Mem} (h : X11_must N l0 l1 m = some out) : shK l0 = 11 + 10 ∧ CT yX11_must cX11_must 2 none 3 0 0 [vR l0, vI l1] 312 m none 312 out := by
  unfold X11_must at h
  obtain ⟨hK, h⟩ := ite_some h
  have hlv : 2 < 3 := by decide
  refine ⟨hK, CT.of (by decide +kernel) rfl (Nat.le_of_ble_eq_true rfl) (ls := [some (vR l0), some (vI l1)]) rfl fun g w C _ => ?_⟩
  refine j_aload_n C dX11_must_0 rfl ?_
  obtain ⟨p1, ep1, h⟩ := bind_some h
  have qp1 := X11_lex_ct ep1
  refine j_cVV C dX11_must_1 vl_X11_271 CF11 rfl qp1.1 qp1.2 (by omega) rfl rfl (Nat.le_of_ble_eq_true rfl) ?_
  refine j_aload_n C dX11_must_4 rfl ?_
  refine j_iload_n C dX11_must_5 rfl ?_
  obtain ⟨p2, ep2, h⟩ := bind_some h
  have qp2 := X11_isSign_ct ep2
  refine j_cVI C dX11_must_6 vl_X11_274 CF11 rfl qp2.1 qp2.2 (by omega) rfl rfl (Nat.le_of_ble_eq_true rfl) ?_
  refine j_if_ne C 21 dX11_must_9 rfl h (fun c8 h => ?_) (fun c8 h => ?_)
  · refine j_mask [true, false] (ls' := [some (vR _), none]) rfl ?_
    exact X11_must_J21_ok C hlv h
  · refine j_aload_n C dX11_must_12 rfl ?_
    refine j_iconst C dX11_must_13 rfl ?_
    refine j_aload_n C dX11_must_14 rfl ?_
    refine j_getI C dX11_must_15 CF11 (by decide) fl_X11_23 rfl rfl h (fun t6 h => ?_)
    obtain ⟨p7, ep7, h⟩ := bind_some h
    have qp7 := X11_blame_ct ep7
    refine j_cVV C dX11_must_18 vl_X11_256 CF11 rfl qp7.1 qp7.2 (by omega) rfl rfl (Nat.le_of_ble_eq_true rfl) ?_
    refine j_mask [true, false] (ls' := [some (vR _), none]) rfl ?_
    exact X11_must_J21_ok C hlv h
theorem dX11_finishes_0 : decode cX11_finishes 0 = .ok (.aload_n 0, 1) := by decide +kernel
theorem dX11_finishes_1 : decode cX11_finishes 1 = .ok (.invokevirtual 271, 3) := by decide +kernel
theorem dX11_finishes_4 : decode cX11_finishes 4 = .ok (.aload_n 0, 1) := by decide +kernel
theorem dX11_finishes_5 : decode cX11_finishes 5 = .ok (.getfield 36, 3) := by decide +kernel
theorem dX11_finishes_8 : decode cX11_finishes 8 = .ok (.ifCond .le 4, 3) := by decide +kernel
theorem dX11_finishes_11 : decode cX11_finishes 11 = .ok (.return_, 1) := by decide +kernel
theorem dX11_finishes_12 : decode cX11_finishes 12 = .ok (.aload_n 0, 1) := by decide +kernel
theorem dX11_finishes_13 : decode cX11_finishes 13 = .ok (.getfield 26, 3) := by decide +kernel
theorem dX11_finishes_16 : decode cX11_finishes 16 = .ok (.istore_n 2, 1) := by decide +kernel
theorem dX11_finishes_17 : decode cX11_finishes 17 = .ok (.iload_n 2, 1) := by decide +kernel
theorem dX11_finishes_18 : decode cX11_finishes 18 = .ok (.aload_n 0, 1) := by decide +kernel
theorem dX11_finishes_19 : decode cX11_finishes 19 = .ok (.getfield 17, 3) := by decide +kernel
theorem dX11_finishes_22 : decode cX11_finishes 22 = .ok (.if_icmp .ge 31, 3) := by decide +kernel
theorem dX11_finishes_25 : decode cX11_finishes 25 = .ok (.aload_n 0, 1) := by decide +kernel
theorem dX11_finishes_26 : decode cX11_finishes 26 = .ok (.getfield 7, 3) := by decide +kernel
theorem dX11_finishes_29 : decode cX11_finishes 29 = .ok (.iload_n 2, 1) := by decide +kernel
theorem dX11_finishes_30 : decode cX11_finishes 30 = .ok (.iaload, 1) := by decide +kernel
theorem dX11_finishes_31 : decode cX11_finishes 31 = .ok (.bipush 32, 2) := by decide +kernel
theorem dX11_finishes_33 : decode cX11_finishes 33 = .ok (.if_icmp .eq 14, 3) := by decide +kernel
theorem dX11_finishes_36 : decode cX11_finishes 36 = .ok (.aload_n 0, 1) := by decide +kernel
theorem dX11_finishes_37 : decode cX11_finishes 37 = .ok (.getfield 7, 3) := by decide +kernel
theorem dX11_finishes_40 : decode cX11_finishes 40 = .ok (.iload_n 2, 1) := by decide +kernel
theorem dX11_finishes_41 : decode cX11_finishes 41 = .ok (.iaload, 1) := by decide +kernel
theorem dX11_finishes_42 : decode cX11_finishes 42 = .ok (.bipush 10, 2) := by decide +kernel
theorem dX11_finishes_44 : decode cX11_finishes 44 = .ok (.if_icmp .ne 9, 3) := by decide +kernel
theorem dX11_finishes_47 : decode cX11_finishes 47 = .ok (.iinc 2 1, 3) := by decide +kernel
theorem dX11_finishes_50 : decode cX11_finishes 50 = .ok (.goto (-33), 3) := by decide +kernel
theorem dX11_finishes_53 : decode cX11_finishes 53 = .ok (.aload_n 0, 1) := by decide +kernel
theorem dX11_finishes_54 : decode cX11_finishes 54 = .ok (.bipush 59, 2) := by decide +kernel
theorem dX11_finishes_56 : decode cX11_finishes 56 = .ok (.invokevirtual 274, 3) := by decide +kernel
theorem dX11_finishes_59 : decode cX11_finishes 59 = .ok (.ifCond .eq 24, 3) := by decide +kernel
theorem dX11_finishes_62 : decode cX11_finishes 62 = .ok (.iload_n 1, 1) := by decide +kernel
theorem dX11_finishes_63 : decode cX11_finishes 63 = .ok (.bipush 80, 2) := by decide +kernel
theorem dX11_finishes_65 : decode cX11_finishes 65 = .ok (.if_icmp .ne 18, 3) := by decide +kernel
theorem dX11_finishes_68 : decode cX11_finishes 68 = .ok (.iload_n 2, 1) := by decide +kernel
theorem dX11_finishes_69 : decode cX11_finishes 69 = .ok (.aload_n 0, 1) := by decide +kernel
theorem dX11_finishes_70 : decode cX11_finishes 70 = .ok (.getfield 17, 3) := by decide +kernel
theorem dX11_finishes_73 : decode cX11_finishes 73 = .ok (.if_icmp .ge 10, 3) := by decide +kernel
theorem dX11_finishes_76 : decode cX11_finishes 76 = .ok (.aload_n 0, 1) := by decide +kernel
theorem dX11_finishes_77 : decode cX11_finishes 77 = .ok (.bipush 6, 2) := by decide +kernel
theorem dX11_finishes_79 : decode cX11_finishes 79 = .ok (.iload_n 2, 1) := by decide +kernel
theorem dX11_finishes_80 : decode cX11_finishes 80 = .ok (.invokevirtual 256, 3) := by decide +kernel
theorem dX11_finishes_83 : decode cX11_finishes 83 = .ok (.aload_n 0, 1) := by decide +kernel
theorem dX11_finishes_84 : decode cX11_finishes 84 = .ok (.bipush 59, 2) := by decide +kernel
theorem dX11_finishes_86 : decode cX11_finishes 86 = .ok (.invokevirtual 427, 3) := by decide +kernel
theorem dX11_finishes_89 : decode cX11_finishes 89 = .ok (.return_, 1) := by decide +kernel
set_option maxRecDepth 100000 in
set_option maxHeartbeats 4000000 in
theorem X11_finishes_J47_ok {g : Gm} {w : Wd} (C : Cx g w RX11 cX11_finishes 3 none) {lv : Nat} (hlv : 3 < lv) {N : Nat} {r17 : Nat → Int → Int → Mem → Option Mem } {l0 : Nat} {l1 : Int} {l2 : Int} {m : Mem} {out : Mem} (hr17 : ∀ l0 l1 l2 m, r17 l0 l1 l2 m = some out → Jd g w 3 (rmL lv 0 0) (Qm g w none out) 17 [some (vR l0), some (vI l1), some (vI l2)] [] 312 m 0 0) (h : X11_finishes_J47 N r17 l0 l1 l2 m = some out) : Jd g w 3 (rmL lv 0 0) (Qm g w none out) 47 [some (vR l0), some (vI l1), some (vI l2)] [] 312 m 0 0 := by
  unfold X11_finishes_J47 at h
  refine j_iinc (ls' := [some (vR _), some (vI _), some (vI _)]) C dX11_finishes_47 rfl (by decide) rfl ?_
  refine j_goto C 17 dX11_finishes_50 rfl ?_
  exact hr17 _ _ _ _ h
set_option maxRecDepth 100000 in
set_option maxHeartbeats 4000000 in
theorem X11_finishes_L17_bok {g : Gm} {w : Wd} (C : Cx g w RX11 cX11_finishes 3 none) {lv : Nat} (hlv : 3 < lv) {N : Nat} {k53 : Nat → Int → Int → Mem → Option Mem} {r17 : Nat → Int → Int → Mem → Option Mem} {l0 : Nat} {l1 : Int} {l2 : Int} {m : Mem} {out : Mem} (hk53 : ∀ l0 l1 l2 m, k53 l0 l1 l2 m = some out → Jd g w 3 (rmL lv 0 0) (Qm g w none out) 53 [some (vR l0), some (vI l1), some (vI l2)] [] 312 m 0 0) (hr17 : ∀ l0 l1 l2 m, r17 l0 l1 l2 m = some out → Jd g w 3 (rmL lv 0 0) (Qm g w none out) 17 [some (vR l0), some (vI l1), some (vI l2)] [] 312 m 0 0) (h : X11_finishes_L17_b N k53 r17 l0 l1 l2 m = some out) : Jd g w 3 (rmL lv 0 0) (Qm g w none out) 17 [some (vR l0), some (vI l1), some (vI l2)] [] 312 m 0 0 := by
  unfold X11_finishes_L17_b at h
  refine j_iload_n C dX11_finishes_17 rfl ?_
  refine j_aload_n C dX11_finishes_18 rfl ?_
  refine j_getI C dX11_finishes_19 CF11 (by decide) fl_X11_17 rfl rfl h (fun t4 h => ?_)
  refine j_icmp_ge C 53 dX11_finishes_22 rfl h (fun c11 h => ?_) (fun c11 h => ?_)
  · exact hk53 _ _ _ _ h
  · refine j_aload_n C dX11_finishes_25 rfl ?_
    refine j_getR C dX11_finishes_26 CF11 (by decide) fl_X11_7 rfl rfl h (fun t5 h => ?_)
    refine j_iload_n C dX11_finishes_29 rfl ?_
    refine j_iald C dX11_finishes_30 rfl h (fun t6 h => ?_)
    refine j_bipush C dX11_finishes_31 rfl ?_
    refine j_icmp_eq C 47 dX11_finishes_33 rfl h (fun c10 h => ?_) (fun c10 h => ?_)
    · exact X11_finishes_J47_ok C hlv hr17 h
    · refine j_aload_n C dX11_finishes_36 rfl ?_
      refine j_getR C dX11_finishes_37 CF11 (by decide) fl_X11_7 rfl rfl h (fun t7 h => ?_)
      refine j_iload_n C dX11_finishes_40 rfl ?_
      refine j_iald C dX11_finishes_41 rfl h (fun t8 h => ?_)
      refine j_bipush C dX11_finishes_42 rfl ?_
      refine j_icmp_ne C 53 dX11_finishes_44 rfl h (fun c9 h => ?_) (fun c9 h => ?_)
      · exact hk53 _ _ _ _ h
      · exact X11_finishes_J47_ok C hlv hr17 h
set_option maxRecDepth 100000 in
set_option maxHeartbeats 4000000 in
theorem X11_finishes_L17_ok {g : Gm} {w : Wd} (C : Cx g w RX11 cX11_finishes 3 none) {lv : Nat} (hlv : 3 < lv) {N : Nat} {k53 : Nat → Int → Int → Mem → Option Mem} {out : Mem} (hk53 : ∀ l0 l1 l2 m, k53 l0 l1 l2 m = some out → Jd g w 3 (rmL lv 0 0) (Qm g w none out) 53 [some (vR l0), some (vI l1), some (vI l2)] [] 312 m 0 0) (f : Nat) : ∀ {l0 : Nat} {l1 : Int} {l2 : Int} {m : Mem}, X11_finishes_L17 N k53 f l0 l1 l2 m = some out → Jd g w 3 (rmL lv 0 0) (Qm g w none out) 17 [some (vR l0), some (vI l1), some (vI l2)] [] 312 m 0 0 := by
  induction f with
  | zero => intro l0 l1 l2 m h; exact none_ne (α := Mem) h
  | succ f ih => intro l0 l1 l2 m h; exact X11_finishes_L17_bok C hlv hk53 (fun l0 l1 l2 m h => ih h) h
set_option maxRecDepth 100000 in
set_option maxHeartbeats 4000000 in
theorem X11_finishes_J83_ok {g : Gm} {w : Wd} (C : Cx g w RX11 cX11_finishes 3 none) {lv : Nat} (hlv : 3 < lv) {N : Nat} {l0 : Nat} {m : Mem} {out : Mem} (h : X11_finishes_J83 N l0 m = some out) : Jd g w 3 (rmL lv 0 0) (Qm g w none out) 83 [some (vR l0), none, none] [] 312 m 0 0 := by
  unfold X11_finishes_J83 at h
  refine j_aload_n C dX11_finishes_83 rfl ?_
  refine j_bipush C dX11_finishes_84 rfl ?_
  obtain ⟨p17, ep17, h⟩ := bind_some h
  have qp17 := X11_must_ct ep17
  refine j_cVV C dX11_finishes_86 vl_X11_427 CF11 rfl qp17.1 qp17.2 (by omega) rfl rfl (Nat.le_of_ble_eq_true rfl) ?_
  have e := Option.some.inj h
  subst e
  exact j_rv C dX11_finishes_89 rfl rfl
set_option maxRecDepth 100000 in
set_option maxHeartbeats 4000000 in
theorem X11_finishes_ct {N : Nat} {l0 : Nat} {l1 : Int} {m : Mem} {out : Mem} (h : X11_finishes N l0 l1 m = some out) : shK l0 = 11 + 10 ∧ CT yX11_finishes cX11_finishes 3 none 4 0 0 [vR l0, vI l1] 312 m none 312 out := by
  unfold X11_finishes at h
  obtain ⟨hK, h⟩ := ite_some h
  have hlv : 3 < 4 := by decide
  refine ⟨hK, CT.of (by decide +kernel) rfl (Nat.le_of_ble_eq_true rfl) (ls := [some (vR l0), some (vI l1), none]) rfl fun g w C _ => ?_⟩
  refine j_aload_n C dX11_finishes_0 rfl ?_
  obtain ⟨p1, ep1, h⟩ := bind_some h
  have qp1 := X11_lex_ct ep1
  refine j_cVV C dX11_finishes_1 vl_X11_271 CF11 rfl qp1.1 qp1.2 (by omega) rfl rfl (Nat.le_of_ble_eq_true rfl) ?_
  refine j_aload_n C dX11_finishes_4 rfl ?_
  refine j_getI C dX11_finishes_5 CF11 (by decide) fl_X11_36 rfl rfl h (fun t2 h => ?_)
  refine j_if_le C 12 dX11_finishes_8 rfl h (fun c23 h => ?_) (fun c23 h => ?_)
  · refine j_aload_n C dX11_finishes_12 rfl ?_
    refine j_getI C dX11_finishes_13 CF11 (by decide) fl_X11_26 rfl rfl h (fun t3 h => ?_)
    refine j_istore_n (ls' := [some (vR _), some (vI _), some (vI _)]) C dX11_finishes_16 (by decide) rfl ?_
    refine X11_finishes_L17_ok C hlv (fun z12 z13 z14 m15 h => ?_) N h
    refine j_aload_n C dX11_finishes_53 rfl ?_
    refine j_bipush C dX11_finishes_54 rfl ?_
    obtain ⟨p16, ep16, h⟩ := bind_some h
    have qp16 := X11_isSign_ct ep16
    refine j_cVI C dX11_finishes_56 vl_X11_274 CF11 rfl qp16.1 qp16.2 (by omega) rfl rfl (Nat.le_of_ble_eq_true rfl) ?_
    refine j_if_eq C 83 dX11_finishes_59 rfl h (fun c22 h => ?_) (fun c22 h => ?_)
    · refine j_mask [true, false, false] (ls' := [some (vR _), none, none]) rfl ?_
      exact X11_finishes_J83_ok C hlv h
    · refine j_iload_n C dX11_finishes_62 rfl ?_
      refine j_bipush C dX11_finishes_63 rfl ?_
      refine j_icmp_ne C 83 dX11_finishes_65 rfl h (fun c21 h => ?_) (fun c21 h => ?_)
      · refine j_mask [true, false, false] (ls' := [some (vR _), none, none]) rfl ?_
        exact X11_finishes_J83_ok C hlv h
      · refine j_iload_n C dX11_finishes_68 rfl ?_
        refine j_aload_n C dX11_finishes_69 rfl ?_
        refine j_getI C dX11_finishes_70 CF11 (by decide) fl_X11_17 rfl rfl h (fun t18 h => ?_)
        refine j_icmp_ge C 83 dX11_finishes_73 rfl h (fun c20 h => ?_) (fun c20 h => ?_)
        · refine j_mask [true, false, false] (ls' := [some (vR _), none, none]) rfl ?_
          exact X11_finishes_J83_ok C hlv h
        · refine j_aload_n C dX11_finishes_76 rfl ?_
          refine j_bipush C dX11_finishes_77 rfl ?_
          refine j_iload_n C dX11_finishes_79 rfl ?_
          obtain ⟨p19, ep19, h⟩ := bind_some h
          have qp19 := X11_blame_ct ep19
          refine j_cVV C dX11_finishes_80 vl_X11_256 CF11 rfl qp19.1 qp19.2 (by omega) rfl rfl (Nat.le_of_ble_eq_true rfl) ?_
          refine j_mask [true, false, false] (ls' := [some (vR _), none, none]) rfl ?_
          exact X11_finishes_J83_ok C hlv h
  · have e := Option.some.inj h
    subst e
    exact j_rv C dX11_finishes_11 rfl rfl
theorem dX11_gotBy_0 : decode cX11_gotBy 0 = .ok (.iconst 0, 1) := by decide +kernel
theorem dX11_gotBy_1 : decode cX11_gotBy 1 = .ok (.istore_n 2, 1) := by decide +kernel
theorem dX11_gotBy_2 : decode cX11_gotBy 2 = .ok (.iconst 0, 1) := by decide +kernel
theorem dX11_gotBy_3 : decode cX11_gotBy 3 = .ok (.istore_n 3, 1) := by decide +kernel
theorem dX11_gotBy_4 : decode cX11_gotBy 4 = .ok (.iload_n 3, 1) := by decide +kernel
theorem dX11_gotBy_5 : decode cX11_gotBy 5 = .ok (.iload_n 1, 1) := by decide +kernel
theorem dX11_gotBy_6 : decode cX11_gotBy 6 = .ok (.if_icmp .ge 80, 3) := by decide +kernel
theorem dX11_gotBy_9 : decode cX11_gotBy 9 = .ok (.aload_n 0, 1) := by decide +kernel
theorem dX11_gotBy_10 : decode cX11_gotBy 10 = .ok (.aload_n 0, 1) := by decide +kernel
theorem dX11_gotBy_11 : decode cX11_gotBy 11 = .ok (.getfield 215, 3) := by decide +kernel
theorem dX11_gotBy_14 : decode cX11_gotBy 14 = .ok (.iload_n 3, 1) := by decide +kernel
theorem dX11_gotBy_15 : decode cX11_gotBy 15 = .ok (.iaload, 1) := by decide +kernel
theorem dX11_gotBy_16 : decode cX11_gotBy 16 = .ok (.invokevirtual 527, 3) := by decide +kernel
theorem dX11_gotBy_19 : decode cX11_gotBy 19 = .ok (.istore 4, 2) := by decide +kernel
theorem dX11_gotBy_21 : decode cX11_gotBy 21 = .ok (.iload_n 3, 1) := by decide +kernel
theorem dX11_gotBy_22 : decode cX11_gotBy 22 = .ok (.aload_n 0, 1) := by decide +kernel
theorem dX11_gotBy_23 : decode cX11_gotBy 23 = .ok (.getfield 114, 3) := by decide +kernel
theorem dX11_gotBy_26 : decode cX11_gotBy 26 = .ok (.aload_n 0, 1) := by decide +kernel
theorem dX11_gotBy_27 : decode cX11_gotBy 27 = .ok (.getfield 51, 3) := by decide +kernel
theorem dX11_gotBy_30 : decode cX11_gotBy 30 = .ok (.iaload, 1) := by decide +kernel
theorem dX11_gotBy_31 : decode cX11_gotBy 31 = .ok (.imul, 1) := by decide +kernel
theorem dX11_gotBy_32 : decode cX11_gotBy 32 = .ok (.aload_n 0, 1) := by decide +kernel
theorem dX11_gotBy_33 : decode cX11_gotBy 33 = .ok (.aload_n 0, 1) := by decide +kernel
theorem dX11_gotBy_34 : decode cX11_gotBy 34 = .ok (.getfield 170, 3) := by decide +kernel
theorem dX11_gotBy_37 : decode cX11_gotBy 37 = .ok (.iload 4, 2) := by decide +kernel
theorem dX11_gotBy_39 : decode cX11_gotBy 39 = .ok (.iaload, 1) := by decide +kernel
theorem dX11_gotBy_40 : decode cX11_gotBy 40 = .ok (.invokevirtual 538, 3) := by decide +kernel
theorem dX11_gotBy_43 : decode cX11_gotBy 43 = .ok (.isub, 1) := by decide +kernel
theorem dX11_gotBy_44 : decode cX11_gotBy 44 = .ok (.istore 5, 2) := by decide +kernel
theorem dX11_gotBy_46 : decode cX11_gotBy 46 = .ok (.aload_n 0, 1) := by decide +kernel
theorem dX11_gotBy_47 : decode cX11_gotBy 47 = .ok (.iload 4, 2) := by decide +kernel
theorem dX11_gotBy_49 : decode cX11_gotBy 49 = .ok (.invokevirtual 518, 3) := by decide +kernel
theorem dX11_gotBy_52 : decode cX11_gotBy 52 = .ok (.iload 5, 2) := by decide +kernel
theorem dX11_gotBy_54 : decode cX11_gotBy 54 = .ok (.ifCond .ge 7, 3) := by decide +kernel
theorem dX11_gotBy_57 : decode cX11_gotBy 57 = .ok (.iconst 0, 1) := by decide +kernel
theorem dX11_gotBy_58 : decode cX11_gotBy 58 = .ok (.goto 5, 3) := by decide +kernel
theorem dX11_gotBy_61 : decode cX11_gotBy 61 = .ok (.iload 5, 2) := by decide +kernel
theorem dX11_gotBy_63 : decode cX11_gotBy 63 = .ok (.isub, 1) := by decide +kernel
theorem dX11_gotBy_64 : decode cX11_gotBy 64 = .ok (.istore 6, 2) := by decide +kernel
theorem dX11_gotBy_66 : decode cX11_gotBy 66 = .ok (.iload_n 2, 1) := by decide +kernel
theorem dX11_gotBy_67 : decode cX11_gotBy 67 = .ok (.iload 6, 2) := by decide +kernel
theorem dX11_gotBy_69 : decode cX11_gotBy 69 = .ok (.ifCond .ge 7, 3) := by decide +kernel
theorem dX11_gotBy_72 : decode cX11_gotBy 72 = .ok (.iconst 0, 1) := by decide +kernel
theorem dX11_gotBy_73 : decode cX11_gotBy 73 = .ok (.goto 5, 3) := by decide +kernel
theorem dX11_gotBy_76 : decode cX11_gotBy 76 = .ok (.iload 6, 2) := by decide +kernel
theorem dX11_gotBy_78 : decode cX11_gotBy 78 = .ok (.iadd, 1) := by decide +kernel
theorem dX11_gotBy_79 : decode cX11_gotBy 79 = .ok (.istore_n 2, 1) := by decide +kernel
theorem dX11_gotBy_80 : decode cX11_gotBy 80 = .ok (.iinc 3 1, 3) := by decide +kernel
theorem dX11_gotBy_83 : decode cX11_gotBy 83 = .ok (.goto (-79), 3) := by decide +kernel
theorem dX11_gotBy_86 : decode cX11_gotBy 86 = .ok (.iload_n 2, 1) := by decide +kernel
theorem dX11_gotBy_87 : decode cX11_gotBy 87 = .ok (.ireturn, 1) := by decide +kernel
set_option maxRecDepth 100000 in
set_option maxHeartbeats 4000000 in
theorem X11_gotBy_J78_ok {g : Gm} {w : Wd} (C : Cx g w RX11 cX11_gotBy 7 (some .int)) {lv : Nat} (hlv : 2 < lv) {N : Nat} {r4 : Nat → Int → Int → Int → Option Int } {l0 : Nat} {l1 : Int} {l3 : Int} {s0 : Int} {s1 : Int} {m : Mem} {out : Int} (hr4 : ∀ l0 l1 l2 l3, r4 l0 l1 l2 l3 = some out → Jd g w 7 (rmL lv 0 0) (Qm g w (some (vI out)) m) 4 [some (vR l0), some (vI l1), some (vI l2), some (vI l3), none, none, none] [] 312 m 0 0) (h : X11_gotBy_J78 N r4 l0 l1 l3 s0 s1 m = some out) : Jd g w 7 (rmL lv 0 0) (Qm g w (some (vI out)) m) 78 [some (vR l0), some (vI l1), none, some (vI l3), none, none, none] [vI s1, vI s0] 312 m 0 0 := by
  unfold X11_gotBy_J78 at h
  refine j_iadd C dX11_gotBy_78 ?_
  refine j_istore_n (ls' := [some (vR _), some (vI _), some (vI _), some (vI _), none, none, none]) C dX11_gotBy_79 (by decide) rfl ?_
  refine j_iinc (ls' := [some (vR _), some (vI _), some (vI _), some (vI _), none, none, none]) C dX11_gotBy_80 rfl (by decide) rfl ?_
  refine j_goto C 4 dX11_gotBy_83 rfl ?_
  exact hr4 _ _ _ _ h
set_option maxRecDepth 100000 in
set_option maxHeartbeats 4000000 in
theorem X11_gotBy_J63_ok {g : Gm} {w : Wd} (C : Cx g w RX11 cX11_gotBy 7 (some .int)) {lv : Nat} (hlv : 2 < lv) {N : Nat} {r4 : Nat → Int → Int → Int → Option Int } {l0 : Nat} {l1 : Int} {l2 : Int} {l3 : Int} {s0 : Int} {s1 : Int} {m : Mem} {out : Int} (hr4 : ∀ l0 l1 l2 l3, r4 l0 l1 l2 l3 = some out → Jd g w 7 (rmL lv 0 0) (Qm g w (some (vI out)) m) 4 [some (vR l0), some (vI l1), some (vI l2), some (vI l3), none, none, none] [] 312 m 0 0) (h : X11_gotBy_J63 N r4 l0 l1 l2 l3 s0 s1 m = some out) : Jd g w 7 (rmL lv 0 0) (Qm g w (some (vI out)) m) 63 [some (vR l0), some (vI l1), some (vI l2), some (vI l3), none, none, none] [vI s1, vI s0] 312 m 0 0 := by
  unfold X11_gotBy_J63 at h
  refine j_isub C dX11_gotBy_63 ?_
  refine j_istore (ls' := [some (vR _), some (vI _), some (vI _), some (vI _), none, none, some (vI _)]) C dX11_gotBy_64 (by decide) rfl ?_
  refine j_iload_n C dX11_gotBy_66 rfl ?_
  refine j_iload C dX11_gotBy_67 rfl ?_
  refine j_if_ge C 76 dX11_gotBy_69 rfl h (fun c11 h => ?_) (fun c11 h => ?_)
  · refine j_iload C dX11_gotBy_76 rfl ?_
    refine j_mask [true, true, false, true, false, false, false] (ls' := [some (vR _), some (vI _), none, some (vI _), none, none, none]) rfl ?_
    exact X11_gotBy_J78_ok C hlv hr4 h
  · refine j_iconst C dX11_gotBy_72 rfl ?_
    refine j_goto C 78 dX11_gotBy_73 rfl ?_
    refine j_mask [true, true, false, true, false, false, false] (ls' := [some (vR _), some (vI _), none, some (vI _), none, none, none]) rfl ?_
    exact X11_gotBy_J78_ok C hlv hr4 h
set_option maxRecDepth 100000 in
set_option maxHeartbeats 4000000 in
theorem X11_gotBy_L4_bok {g : Gm} {w : Wd} (C : Cx g w RX11 cX11_gotBy 7 (some .int)) {lv : Nat} (hlv : 2 < lv) {N : Nat} {r4 : Nat → Int → Int → Int → Option Int} {l0 : Nat} {l1 : Int} {l2 : Int} {l3 : Int} {m : Mem} {out : Int} (hr4 : ∀ l0 l1 l2 l3, r4 l0 l1 l2 l3 = some out → Jd g w 7 (rmL lv 0 0) (Qm g w (some (vI out)) m) 4 [some (vR l0), some (vI l1), some (vI l2), some (vI l3), none, none, none] [] 312 m 0 0) (h : X11_gotBy_L4_b N m r4 l0 l1 l2 l3 = some out) : Jd g w 7 (rmL lv 0 0) (Qm g w (some (vI out)) m) 4 [some (vR l0), some (vI l1), some (vI l2), some (vI l3), none, none, none] [] 312 m 0 0 := by
  unfold X11_gotBy_L4_b at h
  refine j_iload_n C dX11_gotBy_4 rfl ?_
  refine j_iload_n C dX11_gotBy_5 rfl ?_
  refine j_icmp_ge C 86 dX11_gotBy_6 rfl h (fun c13 h => ?_) (fun c13 h => ?_)
  · refine j_iload_n C dX11_gotBy_86 rfl ?_
    exact j_ri C dX11_gotBy_87 rfl (Option.some.inj h).symm rfl
  · refine j_aload_n C dX11_gotBy_9 rfl ?_
    refine j_aload_n C dX11_gotBy_10 rfl ?_
    refine j_getR C dX11_gotBy_11 CF11 (by decide) fl_X11_215 rfl rfl h (fun t1 h => ?_)
    refine j_iload_n C dX11_gotBy_14 rfl ?_
    refine j_iald C dX11_gotBy_15 rfl h (fun t2 h => ?_)
    obtain ⟨p3, ep3, h⟩ := bind_some h
    have qp3 := X11_cloth_ct ep3
    refine j_cVI C dX11_gotBy_16 vl_X11_527 CF11 rfl qp3.1 qp3.2 (by omega) rfl rfl (Nat.le_of_ble_eq_true rfl) ?_
    refine j_istore (ls' := [some (vR _), some (vI _), some (vI _), some (vI _), some (vI _), none, none]) C dX11_gotBy_19 (by decide) rfl ?_
    refine j_iload_n C dX11_gotBy_21 rfl ?_
    refine j_aload_n C dX11_gotBy_22 rfl ?_
    refine j_getR C dX11_gotBy_23 CF11 (by decide) fl_X11_114 rfl rfl h (fun t4 h => ?_)
    refine j_aload_n C dX11_gotBy_26 rfl ?_
    refine j_getI C dX11_gotBy_27 CF11 (by decide) fl_X11_51 rfl rfl h (fun t5 h => ?_)
    refine j_iald C dX11_gotBy_30 rfl h (fun t6 h => ?_)
    refine j_imul C dX11_gotBy_31 ?_
    refine j_aload_n C dX11_gotBy_32 rfl ?_
    refine j_aload_n C dX11_gotBy_33 rfl ?_
    refine j_getR C dX11_gotBy_34 CF11 (by decide) fl_X11_170 rfl rfl h (fun t7 h => ?_)
    refine j_iload C dX11_gotBy_37 rfl ?_
    refine j_iald C dX11_gotBy_39 rfl h (fun t8 h => ?_)
    obtain ⟨p9, ep9, h⟩ := bind_some h
    have qp9 := X11_sunOf_ct ep9
    refine j_cVI C dX11_gotBy_40 vl_X11_538 CF11 rfl qp9.1 qp9.2 (by omega) rfl rfl (Nat.le_of_ble_eq_true rfl) ?_
    refine j_isub C dX11_gotBy_43 ?_
    refine j_istore (ls' := [some (vR _), some (vI _), some (vI _), some (vI _), some (vI _), some (vI _), none]) C dX11_gotBy_44 (by decide) rfl ?_
    refine j_aload_n C dX11_gotBy_46 rfl ?_
    refine j_iload C dX11_gotBy_47 rfl ?_
    obtain ⟨p10, ep10, h⟩ := bind_some h
    have qp10 := X11_dawnOf_ct ep10
    refine j_cVI C dX11_gotBy_49 vl_X11_518 CF11 rfl qp10.1 qp10.2 (by omega) rfl rfl (Nat.le_of_ble_eq_true rfl) ?_
    refine j_iload C dX11_gotBy_52 rfl ?_
    refine j_if_ge C 61 dX11_gotBy_54 rfl h (fun c12 h => ?_) (fun c12 h => ?_)
    · refine j_iload C dX11_gotBy_61 rfl ?_
      refine j_mask [true, true, true, true, false, false, false] (ls' := [some (vR _), some (vI _), some (vI _), some (vI _), none, none, none]) rfl ?_
      exact X11_gotBy_J63_ok C hlv hr4 h
    · refine j_iconst C dX11_gotBy_57 rfl ?_
      refine j_goto C 63 dX11_gotBy_58 rfl ?_
      refine j_mask [true, true, true, true, false, false, false] (ls' := [some (vR _), some (vI _), some (vI _), some (vI _), none, none, none]) rfl ?_
      exact X11_gotBy_J63_ok C hlv hr4 h
set_option maxRecDepth 100000 in
set_option maxHeartbeats 4000000 in
theorem X11_gotBy_L4_ok {g : Gm} {w : Wd} (C : Cx g w RX11 cX11_gotBy 7 (some .int)) {lv : Nat} (hlv : 2 < lv) {N : Nat} {m : Mem} {out : Int} (f : Nat) : ∀ {l0 : Nat} {l1 : Int} {l2 : Int} {l3 : Int}, X11_gotBy_L4 N m f l0 l1 l2 l3 = some out → Jd g w 7 (rmL lv 0 0) (Qm g w (some (vI out)) m) 4 [some (vR l0), some (vI l1), some (vI l2), some (vI l3), none, none, none] [] 312 m 0 0 := by
  induction f with
  | zero => intro l0 l1 l2 l3 h; exact none_ne (α := Int) h
  | succ f ih => intro l0 l1 l2 l3 h; exact X11_gotBy_L4_bok C hlv (fun l0 l1 l2 l3 h => ih h) h
set_option maxRecDepth 100000 in
set_option maxHeartbeats 4000000 in
theorem X11_gotBy_ct {N : Nat} {l0 : Nat} {l1 : Int} {m : Mem} {out : Int} (h : X11_gotBy N l0 l1 m = some out) : shK l0 = 11 + 10 ∧ CT yX11_gotBy cX11_gotBy 7 (some .int) 3 0 0 [vR l0, vI l1] 312 m (some (vI out)) 312 m := by
  unfold X11_gotBy at h
  obtain ⟨hK, h⟩ := ite_some h
  have hlv : 2 < 3 := by decide
  refine ⟨hK, CT.of (by decide +kernel) rfl (Nat.le_of_ble_eq_true rfl) (ls := [some (vR l0), some (vI l1), none, none, none, none, none]) rfl fun g w C _ => ?_⟩
  refine j_iconst C dX11_gotBy_0 rfl ?_
  refine j_istore_n (ls' := [some (vR _), some (vI _), some (vI _), none, none, none, none]) C dX11_gotBy_1 (by decide) rfl ?_
  refine j_iconst C dX11_gotBy_2 rfl ?_
  refine j_istore_n (ls' := [some (vR _), some (vI _), some (vI _), some (vI _), none, none, none]) C dX11_gotBy_3 (by decide) rfl ?_
  exact X11_gotBy_L4_ok C hlv N h
theorem dX11_ring_0 : decode cX11_ring 0 = .ok (.iconst 2, 1) := by decide +kernel
theorem dX11_ring_1 : decode cX11_ring 1 = .ok (.aload_n 0, 1) := by decide +kernel
theorem dX11_ring_2 : decode cX11_ring 2 = .ok (.getfield 176, 3) := by decide +kernel
theorem dX11_ring_5 : decode cX11_ring 5 = .ok (.iload_n 1, 1) := by decide +kernel
theorem dX11_ring_6 : decode cX11_ring 6 = .ok (.iadd, 1) := by decide +kernel
theorem dX11_ring_7 : decode cX11_ring 7 = .ok (.bipush 20, 2) := by decide +kernel
theorem dX11_ring_9 : decode cX11_ring 9 = .ok (.irem, 1) := by decide +kernel
theorem dX11_ring_10 : decode cX11_ring 10 = .ok (.iadd, 1) := by decide +kernel
theorem dX11_ring_11 : decode cX11_ring 11 = .ok (.ireturn, 1) := by decide +kernel
set_option maxRecDepth 100000 in
set_option maxHeartbeats 4000000 in
theorem X11_ring_ct {l0 : Nat} {l1 : Int} {m : Mem} {out : Int} (h : X11_ring l0 l1 m = some out) : shK l0 = 11 + 10 ∧ CT yX11_ring cX11_ring 2 (some .int) 1 0 0 [vR l0, vI l1] 312 m (some (vI out)) 312 m := by
  unfold X11_ring at h
  obtain ⟨hK, h⟩ := ite_some h
  have hlv : 0 < 1 := by decide
  refine ⟨hK, CT.of (by decide +kernel) rfl (Nat.le_of_ble_eq_true rfl) (ls := [some (vR l0), some (vI l1)]) rfl fun g w C _ => ?_⟩
  refine j_iconst C dX11_ring_0 rfl ?_
  refine j_aload_n C dX11_ring_1 rfl ?_
  refine j_getI C dX11_ring_2 CF11 (by decide) fl_X11_176 rfl rfl h (fun t1 h => ?_)
  refine j_iload_n C dX11_ring_5 rfl ?_
  refine j_iadd C dX11_ring_6 ?_
  refine j_bipush C dX11_ring_7 rfl ?_
  refine j_irem C dX11_ring_9 (by decide) ?_
  refine j_iadd C dX11_ring_10 ?_
  exact j_ri C dX11_ring_11 rfl (Option.some.inj h).symm rfl
theorem dX11_keeps_0 : decode cX11_keeps 0 = .ok (.aload_n 0, 1) := by decide +kernel
theorem dX11_keeps_1 : decode cX11_keeps 1 = .ok (.getfield 179, 3) := by decide +kernel
theorem dX11_keeps_4 : decode cX11_keeps 4 = .ok (.bipush 20, 2) := by decide +kernel
theorem dX11_keeps_6 : decode cX11_keeps 6 = .ok (.if_icmp .ne 26, 3) := by decide +kernel
theorem dX11_keeps_9 : decode cX11_keeps 9 = .ok (.aload_n 0, 1) := by decide +kernel
theorem dX11_keeps_10 : decode cX11_keeps 10 = .ok (.aload_n 0, 1) := by decide +kernel
theorem dX11_keeps_11 : decode cX11_keeps 11 = .ok (.getfield 176, 3) := by decide +kernel
theorem dX11_keeps_14 : decode cX11_keeps 14 = .ok (.iconst 1, 1) := by decide +kernel
theorem dX11_keeps_15 : decode cX11_keeps 15 = .ok (.iadd, 1) := by decide +kernel
theorem dX11_keeps_16 : decode cX11_keeps 16 = .ok (.bipush 20, 2) := by decide +kernel
theorem dX11_keeps_18 : decode cX11_keeps 18 = .ok (.irem, 1) := by decide +kernel
theorem dX11_keeps_19 : decode cX11_keeps 19 = .ok (.putfield 176, 3) := by decide +kernel
theorem dX11_keeps_22 : decode cX11_keeps 22 = .ok (.aload_n 0, 1) := by decide +kernel
theorem dX11_keeps_23 : decode cX11_keeps 23 = .ok (.dup, 1) := by decide +kernel
theorem dX11_keeps_24 : decode cX11_keeps 24 = .ok (.getfield 179, 3) := by decide +kernel
theorem dX11_keeps_27 : decode cX11_keeps 27 = .ok (.iconst 1, 1) := by decide +kernel
theorem dX11_keeps_28 : decode cX11_keeps 28 = .ok (.isub, 1) := by decide +kernel
theorem dX11_keeps_29 : decode cX11_keeps 29 = .ok (.putfield 179, 3) := by decide +kernel
theorem dX11_keeps_32 : decode cX11_keeps 32 = .ok (.aload_n 0, 1) := by decide +kernel
theorem dX11_keeps_33 : decode cX11_keeps 33 = .ok (.aload_n 0, 1) := by decide +kernel
theorem dX11_keeps_34 : decode cX11_keeps 34 = .ok (.aload_n 0, 1) := by decide +kernel
theorem dX11_keeps_35 : decode cX11_keeps 35 = .ok (.getfield 179, 3) := by decide +kernel
theorem dX11_keeps_38 : decode cX11_keeps 38 = .ok (.invokevirtual 445, 3) := by decide +kernel
theorem dX11_keeps_41 : decode cX11_keeps 41 = .ok (.iconst 0, 1) := by decide +kernel
theorem dX11_keeps_42 : decode cX11_keeps 42 = .ok (.invokevirtual 448, 3) := by decide +kernel
theorem dX11_keeps_45 : decode cX11_keeps 45 = .ok (.aload_n 0, 1) := by decide +kernel
theorem dX11_keeps_46 : decode cX11_keeps 46 = .ok (.dup, 1) := by decide +kernel
theorem dX11_keeps_47 : decode cX11_keeps 47 = .ok (.getfield 179, 3) := by decide +kernel
theorem dX11_keeps_50 : decode cX11_keeps 50 = .ok (.iconst 1, 1) := by decide +kernel
theorem dX11_keeps_51 : decode cX11_keeps 51 = .ok (.iadd, 1) := by decide +kernel
theorem dX11_keeps_52 : decode cX11_keeps 52 = .ok (.putfield 179, 3) := by decide +kernel
theorem dX11_keeps_55 : decode cX11_keeps 55 = .ok (.return_, 1) := by decide +kernel
set_option maxRecDepth 100000 in
set_option maxHeartbeats 4000000 in
theorem X11_keeps_J32_ok {g : Gm} {w : Wd} (C : Cx g w RX11 cX11_keeps 1 none) {lv : Nat} (hlv : 1 < lv) {N : Nat} {l0 : Nat} {m : Mem} {out : Mem} (h : X11_keeps_J32 N l0 m = some out) : Jd g w 1 (rmL lv 0 0) (Qm g w none out) 32 [some (vR l0)] [] 312 m 0 0 := by
  unfold X11_keeps_J32 at h
  refine j_aload_n C dX11_keeps_32 rfl ?_
  refine j_aload_n C dX11_keeps_33 rfl ?_
  refine j_aload_n C dX11_keeps_34 rfl ?_
  refine j_getI C dX11_keeps_35 CF11 (by decide) fl_X11_179 rfl rfl h (fun t2 h => ?_)
  obtain ⟨p3, ep3, h⟩ := bind_some h
  have qp3 := X11_ring_ct ep3
  refine j_cVI C dX11_keeps_38 vl_X11_445 CF11 rfl qp3.1 qp3.2 (by omega) rfl rfl (Nat.le_of_ble_eq_true rfl) ?_
  refine j_iconst C dX11_keeps_41 rfl ?_
  obtain ⟨p4, ep4, h⟩ := bind_some h
  have qp4 := X11_copies_ct ep4
  refine j_cVV C dX11_keeps_42 vl_X11_448 CF11 rfl qp4.1 qp4.2 (by omega) rfl rfl (Nat.le_of_ble_eq_true rfl) ?_
  refine j_aload_n C dX11_keeps_45 rfl ?_
  refine j_dup C dX11_keeps_46 rfl ?_
  refine j_getI C dX11_keeps_47 CF11 (by decide) fl_X11_179 rfl rfl h (fun t5 h => ?_)
  refine j_iconst C dX11_keeps_50 rfl ?_
  refine j_iadd C dX11_keeps_51 ?_
  refine j_putI C dX11_keeps_52 CF11 (by decide) fl_X11_179 rfl rfl rfl rfl h (fun m6 h => ?_)
  have e := Option.some.inj h
  subst e
  exact j_rv C dX11_keeps_55 rfl rfl
set_option maxRecDepth 100000 in
set_option maxHeartbeats 4000000 in
theorem X11_keeps_ct {N : Nat} {l0 : Nat} {m : Mem} {out : Mem} (h : X11_keeps N l0 m = some out) : shK l0 = 11 + 10 ∧ CT yX11_keeps cX11_keeps 1 none 2 0 0 [vR l0] 312 m none 312 out := by
  unfold X11_keeps at h
  obtain ⟨hK, h⟩ := ite_some h
  have hlv : 1 < 2 := by decide
  refine ⟨hK, CT.of (by decide +kernel) rfl (Nat.le_of_ble_eq_true rfl) (ls := [some (vR l0)]) rfl fun g w C _ => ?_⟩
  refine j_aload_n C dX11_keeps_0 rfl ?_
  refine j_getI C dX11_keeps_1 CF11 (by decide) fl_X11_179 rfl rfl h (fun t1 h => ?_)
  refine j_bipush C dX11_keeps_4 rfl ?_
  refine j_icmp_ne C 32 dX11_keeps_6 rfl h (fun c11 h => ?_) (fun c11 h => ?_)
  · exact X11_keeps_J32_ok C hlv h
  · refine j_aload_n C dX11_keeps_9 rfl ?_
    refine j_aload_n C dX11_keeps_10 rfl ?_
    refine j_getI C dX11_keeps_11 CF11 (by decide) fl_X11_176 rfl rfl h (fun t7 h => ?_)
    refine j_iconst C dX11_keeps_14 rfl ?_
    refine j_iadd C dX11_keeps_15 ?_
    refine j_bipush C dX11_keeps_16 rfl ?_
    refine j_irem C dX11_keeps_18 (by decide) ?_
    refine j_putI C dX11_keeps_19 CF11 (by decide) fl_X11_176 rfl rfl rfl rfl h (fun m8 h => ?_)
    refine j_aload_n C dX11_keeps_22 rfl ?_
    refine j_dup C dX11_keeps_23 rfl ?_
    refine j_getI C dX11_keeps_24 CF11 (by decide) fl_X11_179 rfl rfl h (fun t9 h => ?_)
    refine j_iconst C dX11_keeps_27 rfl ?_
    refine j_isub C dX11_keeps_28 ?_
    refine j_putI C dX11_keeps_29 CF11 (by decide) fl_X11_179 rfl rfl rfl rfl h (fun m10 h => ?_)
    exact X11_keeps_J32_ok C hlv h
theorem dX11_hang_0 : decode cX11_hang 0 = .ok (.iload_n 1, 1) := by decide +kernel
theorem dX11_hang_1 : decode cX11_hang 1 = .ok (.iconst 0, 1) := by decide +kernel
theorem dX11_hang_2 : decode cX11_hang 2 = .ok (.aload_n 0, 1) := by decide +kernel
theorem dX11_hang_3 : decode cX11_hang 3 = .ok (.invokevirtual 524, 3) := by decide +kernel
theorem dX11_hang_6 : decode cX11_hang 6 = .ok (.iconst 1, 1) := by decide +kernel
theorem dX11_hang_7 : decode cX11_hang 7 = .ok (.isub, 1) := by decide +kernel
theorem dX11_hang_8 : decode cX11_hang 8 = .ok (.invokestatic 334, 3) := by decide +kernel
theorem dX11_hang_11 : decode cX11_hang 11 = .ok (.ifCond .eq 23, 3) := by decide +kernel
theorem dX11_hang_14 : decode cX11_hang 14 = .ok (.aload_n 0, 1) := by decide +kernel
theorem dX11_hang_15 : decode cX11_hang 15 = .ok (.iload_n 2, 1) := by decide +kernel
theorem dX11_hang_16 : decode cX11_hang 16 = .ok (.invokevirtual 532, 3) := by decide +kernel
theorem dX11_hang_19 : decode cX11_hang 19 = .ok (.ifCond .eq 15, 3) := by decide +kernel
theorem dX11_hang_22 : decode cX11_hang 22 = .ok (.aload_n 0, 1) := by decide +kernel
theorem dX11_hang_23 : decode cX11_hang 23 = .ok (.iload_n 2, 1) := by decide +kernel
theorem dX11_hang_24 : decode cX11_hang 24 = .ok (.invokevirtual 559, 3) := by decide +kernel
theorem dX11_hang_27 : decode cX11_hang 27 = .ok (.ifCond .eq 7, 3) := by decide +kernel
theorem dX11_hang_30 : decode cX11_hang 30 = .ok (.iconst 1, 1) := by decide +kernel
theorem dX11_hang_31 : decode cX11_hang 31 = .ok (.goto 4, 3) := by decide +kernel
theorem dX11_hang_34 : decode cX11_hang 34 = .ok (.iconst 0, 1) := by decide +kernel
theorem dX11_hang_35 : decode cX11_hang 35 = .ok (.istore_n 3, 1) := by decide +kernel
theorem dX11_hang_36 : decode cX11_hang 36 = .ok (.iload_n 3, 1) := by decide +kernel
theorem dX11_hang_37 : decode cX11_hang 37 = .ok (.ifCond .ne 17, 3) := by decide +kernel
theorem dX11_hang_40 : decode cX11_hang 40 = .ok (.aload_n 0, 1) := by decide +kernel
theorem dX11_hang_41 : decode cX11_hang 41 = .ok (.iconst 2, 1) := by decide +kernel
theorem dX11_hang_42 : decode cX11_hang 42 = .ok (.invokevirtual 248, 3) := by decide +kernel
theorem dX11_hang_45 : decode cX11_hang 45 = .ok (.ifCond .lt 7, 3) := by decide +kernel
theorem dX11_hang_48 : decode cX11_hang 48 = .ok (.iconst 1, 1) := by decide +kernel
theorem dX11_hang_49 : decode cX11_hang 49 = .ok (.goto 4, 3) := by decide +kernel
theorem dX11_hang_52 : decode cX11_hang 52 = .ok (.iconst 0, 1) := by decide +kernel
theorem dX11_hang_53 : decode cX11_hang 53 = .ok (.ireturn, 1) := by decide +kernel
theorem dX11_hang_54 : decode cX11_hang 54 = .ok (.aload_n 0, 1) := by decide +kernel
theorem dX11_hang_55 : decode cX11_hang 55 = .ok (.invokevirtual 562, 3) := by decide +kernel
theorem dX11_hang_58 : decode cX11_hang 58 = .ok (.aload_n 0, 1) := by decide +kernel
theorem dX11_hang_59 : decode cX11_hang 59 = .ok (.getfield 170, 3) := by decide +kernel
theorem dX11_hang_62 : decode cX11_hang 62 = .ok (.aload_n 0, 1) := by decide +kernel
theorem dX11_hang_63 : decode cX11_hang 63 = .ok (.iload_n 1, 1) := by decide +kernel
theorem dX11_hang_64 : decode cX11_hang 64 = .ok (.invokevirtual 527, 3) := by decide +kernel
theorem dX11_hang_67 : decode cX11_hang 67 = .ok (.iload_n 2, 1) := by decide +kernel
theorem dX11_hang_68 : decode cX11_hang 68 = .ok (.iastore, 1) := by decide +kernel
theorem dX11_hang_69 : decode cX11_hang 69 = .ok (.iconst 1, 1) := by decide +kernel
theorem dX11_hang_70 : decode cX11_hang 70 = .ok (.ireturn, 1) := by decide +kernel
set_option maxRecDepth 100000 in
set_option maxHeartbeats 4000000 in
theorem X11_hang_J35_ok {g : Gm} {w : Wd} (C : Cx g w RX11 cX11_hang 4 (some .boolean)) {lv : Nat} (hlv : 3 < lv) {N : Nat} {l0 : Nat} {l1 : Int} {l2 : Int} {s0 : Int} {m : Mem} {out : (Int × Mem)} (h : X11_hang_J35 N l0 l1 l2 s0 m = some out) : Jd g w 4 (rmL lv 0 0) (Qm g w (some (vI out.1)) out.2) 35 [some (vR l0), some (vI l1), some (vI l2), none] [vI s0] 312 m 0 0 := by
  unfold X11_hang_J35 at h
  refine j_istore_n (ls' := [some (vR _), some (vI _), some (vI _), some (vI _)]) C dX11_hang_35 (by decide) rfl ?_
  refine j_iload_n C dX11_hang_36 rfl ?_
  refine j_if_ne C 54 dX11_hang_37 rfl h (fun c12 h => ?_) (fun c12 h => ?_)
  · refine j_aload_n C dX11_hang_54 rfl ?_
    obtain ⟨p3, ep3, h⟩ := bind_some h
    have qp3 := X11_keeps_ct ep3
    refine j_cVV C dX11_hang_55 vl_X11_562 CF11 rfl qp3.1 qp3.2 (by omega) rfl rfl (Nat.le_of_ble_eq_true rfl) ?_
    refine j_aload_n C dX11_hang_58 rfl ?_
    refine j_getR C dX11_hang_59 CF11 (by decide) fl_X11_170 rfl rfl h (fun t4 h => ?_)
    refine j_aload_n C dX11_hang_62 rfl ?_
    refine j_iload_n C dX11_hang_63 rfl ?_
    obtain ⟨p5, ep5, h⟩ := bind_some h
    have qp5 := X11_cloth_ct ep5
    refine j_cVI C dX11_hang_64 vl_X11_527 CF11 rfl qp5.1 qp5.2 (by omega) rfl rfl (Nat.le_of_ble_eq_true rfl) ?_
    refine j_iload_n C dX11_hang_67 rfl ?_
    refine j_iast C dX11_hang_68 rfl h (fun m6 h => ?_)
    refine j_iconst C dX11_hang_69 rfl ?_
    obtain ⟨r7, er7, h⟩ := bind_some h
    have e := Option.some.inj h
    subst e
    exact j_rz C dX11_hang_70 rfl (retZ_some er7) rfl
  · refine j_aload_n C dX11_hang_40 rfl ?_
    refine j_iconst C dX11_hang_41 rfl ?_
    obtain ⟨p8, ep8, h⟩ := bind_some h
    have qp8 := X11_refuses_ct ep8
    refine j_cVI C dX11_hang_42 vl_X11_248 CF11 rfl qp8.1 qp8.2 (by omega) rfl rfl (Nat.le_of_ble_eq_true rfl) ?_
    refine j_if_lt C 52 dX11_hang_45 rfl h (fun c11 h => ?_) (fun c11 h => ?_)
    · refine j_iconst C dX11_hang_52 rfl ?_
      obtain ⟨r9, er9, h⟩ := bind_some h
      have e := Option.some.inj h
      subst e
      exact j_rz C dX11_hang_53 rfl (retZ_some er9) rfl
    · refine j_iconst C dX11_hang_48 rfl ?_
      refine j_goto C 53 dX11_hang_49 rfl ?_
      obtain ⟨r10, er10, h⟩ := bind_some h
      have e := Option.some.inj h
      subst e
      exact j_rz C dX11_hang_53 rfl (retZ_some er10) rfl
set_option maxRecDepth 100000 in
set_option maxHeartbeats 4000000 in
theorem X11_hang_J34_ok {g : Gm} {w : Wd} (C : Cx g w RX11 cX11_hang 4 (some .boolean)) {lv : Nat} (hlv : 3 < lv) {N : Nat} {l0 : Nat} {l1 : Int} {l2 : Int} {m : Mem} {out : (Int × Mem)} (h : X11_hang_J34 N l0 l1 l2 m = some out) : Jd g w 4 (rmL lv 0 0) (Qm g w (some (vI out.1)) out.2) 34 [some (vR l0), some (vI l1), some (vI l2), none] [] 312 m 0 0 := by
  unfold X11_hang_J34 at h
  refine j_iconst C dX11_hang_34 rfl ?_
  exact X11_hang_J35_ok C hlv h
set_option maxRecDepth 100000 in
set_option maxHeartbeats 4000000 in
theorem X11_hang_ct {N : Nat} {l0 : Nat} {l1 : Int} {l2 : Int} {m : Mem} {out : (Int × Mem)} (h : X11_hang N l0 l1 l2 m = some out) : shK l0 = 11 + 10 ∧ CT yX11_hang cX11_hang 4 (some .boolean) 4 0 0 [vR l0, vI l1, vI l2] 312 m (some (vI out.1)) 312 out.2 := by
  unfold X11_hang at h
  obtain ⟨hK, h⟩ := ite_some h
  have hlv : 3 < 4 := by decide
  refine ⟨hK, CT.of (by decide +kernel) rfl (Nat.le_of_ble_eq_true rfl) (ls := [some (vR l0), some (vI l1), some (vI l2), none]) rfl fun g w C _ => ?_⟩
  refine j_iload_n C dX11_hang_0 rfl ?_
  refine j_iconst C dX11_hang_1 rfl ?_
  refine j_aload_n C dX11_hang_2 rfl ?_
  obtain ⟨p1, ep1, h⟩ := bind_some h
  have qp1 := X11_cloths_ct ep1
  refine j_cVI C dX11_hang_3 vl_X11_524 CF11 rfl qp1.1 qp1.2 (by omega) rfl rfl (Nat.le_of_ble_eq_true rfl) ?_
  refine j_iconst C dX11_hang_6 rfl ?_
  refine j_isub C dX11_hang_7 ?_
  obtain ⟨p2, ep2, h⟩ := bind_some h
  have qp2 := X11_is_ct ep2
  refine j_cSI C dX11_hang_8 sl_X11_334 qp2 (by omega) rfl rfl (Nat.le_of_ble_eq_true rfl) ?_
  refine j_if_eq C 34 dX11_hang_11 rfl h (fun c17 h => ?_) (fun c17 h => ?_)
  · exact X11_hang_J34_ok C hlv h
  · refine j_aload_n C dX11_hang_14 rfl ?_
    refine j_iload_n C dX11_hang_15 rfl ?_
    obtain ⟨p13, ep13, h⟩ := bind_some h
    have qp13 := X11_isCell_ct ep13
    refine j_cVI C dX11_hang_16 vl_X11_532 CF11 rfl qp13.1 qp13.2 (by omega) rfl rfl (Nat.le_of_ble_eq_true rfl) ?_
    refine j_if_eq C 34 dX11_hang_19 rfl h (fun c16 h => ?_) (fun c16 h => ?_)
    · exact X11_hang_J34_ok C hlv h
    · refine j_aload_n C dX11_hang_22 rfl ?_
      refine j_iload_n C dX11_hang_23 rfl ?_
      obtain ⟨p14, ep14, h⟩ := bind_some h
      have qp14 := X11_isFree_ct ep14
      refine j_cVI C dX11_hang_24 vl_X11_559 CF11 rfl qp14.1 qp14.2 (by omega) rfl rfl (Nat.le_of_ble_eq_true rfl) ?_
      refine j_if_eq C 34 dX11_hang_27 rfl h (fun c15 h => ?_) (fun c15 h => ?_)
      · exact X11_hang_J34_ok C hlv h
      · refine j_iconst C dX11_hang_30 rfl ?_
        refine j_goto C 35 dX11_hang_31 rfl ?_
        exact X11_hang_J35_ok C hlv h
theorem dX11_has_0 : decode cX11_has 0 = .ok (.iconst 0, 1) := by decide +kernel
theorem dX11_has_1 : decode cX11_has 1 = .ok (.istore_n 2, 1) := by decide +kernel
theorem dX11_has_2 : decode cX11_has 2 = .ok (.iload_n 1, 1) := by decide +kernel
theorem dX11_has_3 : decode cX11_has 3 = .ok (.tableswitch 195 0 12 #[65, 75, 85, 112, 122, 132, 142, 147, 157, 167, 177, 184, 189], 65) := by decide +kernel
theorem dX11_has_68 : decode cX11_has 68 = .ok (.aload_n 0, 1) := by decide +kernel
theorem dX11_has_69 : decode cX11_has 69 = .ok (.getfield 54, 3) := by decide +kernel
theorem dX11_has_72 : decode cX11_has 72 = .ok (.aload_n 0, 1) := by decide +kernel
theorem dX11_has_73 : decode cX11_has 73 = .ok (.getfield 51, 3) := by decide +kernel
theorem dX11_has_76 : decode cX11_has 76 = .ok (.iaload, 1) := by decide +kernel
theorem dX11_has_77 : decode cX11_has 77 = .ok (.ireturn, 1) := by decide +kernel
theorem dX11_has_78 : decode cX11_has 78 = .ok (.aload_n 0, 1) := by decide +kernel
theorem dX11_has_79 : decode cX11_has 79 = .ok (.getfield 57, 3) := by decide +kernel
theorem dX11_has_82 : decode cX11_has 82 = .ok (.aload_n 0, 1) := by decide +kernel
theorem dX11_has_83 : decode cX11_has 83 = .ok (.getfield 51, 3) := by decide +kernel
theorem dX11_has_86 : decode cX11_has 86 = .ok (.iaload, 1) := by decide +kernel
theorem dX11_has_87 : decode cX11_has 87 = .ok (.ireturn, 1) := by decide +kernel
theorem dX11_has_88 : decode cX11_has 88 = .ok (.iconst 0, 1) := by decide +kernel
theorem dX11_has_89 : decode cX11_has 89 = .ok (.istore_n 3, 1) := by decide +kernel
theorem dX11_has_90 : decode cX11_has 90 = .ok (.iload_n 3, 1) := by decide +kernel
theorem dX11_has_91 : decode cX11_has 91 = .ok (.aload_n 0, 1) := by decide +kernel
theorem dX11_has_92 : decode cX11_has 92 = .ok (.invokevirtual 438, 3) := by decide +kernel
theorem dX11_has_95 : decode cX11_has 95 = .ok (.if_icmp .ge 18, 3) := by decide +kernel
theorem dX11_has_98 : decode cX11_has 98 = .ok (.iload_n 2, 1) := by decide +kernel
theorem dX11_has_99 : decode cX11_has 99 = .ok (.aload_n 0, 1) := by decide +kernel
theorem dX11_has_100 : decode cX11_has 100 = .ok (.getfield 167, 3) := by decide +kernel
theorem dX11_has_103 : decode cX11_has 103 = .ok (.iload_n 3, 1) := by decide +kernel
theorem dX11_has_104 : decode cX11_has 104 = .ok (.iaload, 1) := by decide +kernel
theorem dX11_has_105 : decode cX11_has 105 = .ok (.iadd, 1) := by decide +kernel
theorem dX11_has_106 : decode cX11_has 106 = .ok (.istore_n 2, 1) := by decide +kernel
theorem dX11_has_107 : decode cX11_has 107 = .ok (.iinc 3 1, 3) := by decide +kernel
theorem dX11_has_110 : decode cX11_has 110 = .ok (.goto (-20), 3) := by decide +kernel
theorem dX11_has_113 : decode cX11_has 113 = .ok (.iload_n 2, 1) := by decide +kernel
theorem dX11_has_114 : decode cX11_has 114 = .ok (.ireturn, 1) := by decide +kernel
theorem dX11_has_115 : decode cX11_has 115 = .ok (.aload_n 0, 1) := by decide +kernel
theorem dX11_has_116 : decode cX11_has 116 = .ok (.getfield 72, 3) := by decide +kernel
theorem dX11_has_119 : decode cX11_has 119 = .ok (.aload_n 0, 1) := by decide +kernel
theorem dX11_has_120 : decode cX11_has 120 = .ok (.getfield 51, 3) := by decide +kernel
theorem dX11_has_123 : decode cX11_has 123 = .ok (.iaload, 1) := by decide +kernel
theorem dX11_has_124 : decode cX11_has 124 = .ok (.ireturn, 1) := by decide +kernel
theorem dX11_has_125 : decode cX11_has 125 = .ok (.aload_n 0, 1) := by decide +kernel
theorem dX11_has_126 : decode cX11_has 126 = .ok (.getfield 75, 3) := by decide +kernel
theorem dX11_has_129 : decode cX11_has 129 = .ok (.aload_n 0, 1) := by decide +kernel
theorem dX11_has_130 : decode cX11_has 130 = .ok (.getfield 51, 3) := by decide +kernel
theorem dX11_has_133 : decode cX11_has 133 = .ok (.iaload, 1) := by decide +kernel
theorem dX11_has_134 : decode cX11_has 134 = .ok (.ireturn, 1) := by decide +kernel
theorem dX11_has_135 : decode cX11_has 135 = .ok (.aload_n 0, 1) := by decide +kernel
theorem dX11_has_136 : decode cX11_has 136 = .ok (.getfield 81, 3) := by decide +kernel
theorem dX11_has_139 : decode cX11_has 139 = .ok (.aload_n 0, 1) := by decide +kernel
theorem dX11_has_140 : decode cX11_has 140 = .ok (.getfield 51, 3) := by decide +kernel
theorem dX11_has_143 : decode cX11_has 143 = .ok (.iaload, 1) := by decide +kernel
theorem dX11_has_144 : decode cX11_has 144 = .ok (.ireturn, 1) := by decide +kernel
theorem dX11_has_145 : decode cX11_has 145 = .ok (.aload_n 0, 1) := by decide +kernel
theorem dX11_has_146 : decode cX11_has 146 = .ok (.invokevirtual 524, 3) := by decide +kernel
theorem dX11_has_149 : decode cX11_has 149 = .ok (.ireturn, 1) := by decide +kernel
theorem dX11_has_150 : decode cX11_has 150 = .ok (.aload_n 0, 1) := by decide +kernel
theorem dX11_has_151 : decode cX11_has 151 = .ok (.getfield 108, 3) := by decide +kernel
theorem dX11_has_154 : decode cX11_has 154 = .ok (.aload_n 0, 1) := by decide +kernel
theorem dX11_has_155 : decode cX11_has 155 = .ok (.getfield 51, 3) := by decide +kernel
theorem dX11_has_158 : decode cX11_has 158 = .ok (.iaload, 1) := by decide +kernel
theorem dX11_has_159 : decode cX11_has 159 = .ok (.ireturn, 1) := by decide +kernel
theorem dX11_has_160 : decode cX11_has 160 = .ok (.aload_n 0, 1) := by decide +kernel
theorem dX11_has_161 : decode cX11_has 161 = .ok (.getfield 111, 3) := by decide +kernel
theorem dX11_has_164 : decode cX11_has 164 = .ok (.aload_n 0, 1) := by decide +kernel
theorem dX11_has_165 : decode cX11_has 165 = .ok (.getfield 51, 3) := by decide +kernel
theorem dX11_has_168 : decode cX11_has 168 = .ok (.iaload, 1) := by decide +kernel
theorem dX11_has_169 : decode cX11_has 169 = .ok (.ireturn, 1) := by decide +kernel
theorem dX11_has_170 : decode cX11_has 170 = .ok (.aload_n 0, 1) := by decide +kernel
theorem dX11_has_171 : decode cX11_has 171 = .ok (.getfield 114, 3) := by decide +kernel
theorem dX11_has_174 : decode cX11_has 174 = .ok (.aload_n 0, 1) := by decide +kernel
theorem dX11_has_175 : decode cX11_has 175 = .ok (.getfield 51, 3) := by decide +kernel
theorem dX11_has_178 : decode cX11_has 178 = .ok (.iaload, 1) := by decide +kernel
theorem dX11_has_179 : decode cX11_has 179 = .ok (.ireturn, 1) := by decide +kernel
theorem dX11_has_180 : decode cX11_has 180 = .ok (.aload_n 0, 1) := by decide +kernel
theorem dX11_has_181 : decode cX11_has 181 = .ok (.getfield 164, 3) := by decide +kernel
theorem dX11_has_184 : decode cX11_has 184 = .ok (.iconst 0, 1) := by decide +kernel
theorem dX11_has_185 : decode cX11_has 185 = .ok (.iaload, 1) := by decide +kernel
theorem dX11_has_186 : decode cX11_has 186 = .ok (.ireturn, 1) := by decide +kernel
theorem dX11_has_187 : decode cX11_has 187 = .ok (.aload_n 0, 1) := by decide +kernel
theorem dX11_has_188 : decode cX11_has 188 = .ok (.getfield 179, 3) := by decide +kernel
theorem dX11_has_191 : decode cX11_has 191 = .ok (.ireturn, 1) := by decide +kernel
theorem dX11_has_192 : decode cX11_has 192 = .ok (.aload_n 0, 1) := by decide +kernel
theorem dX11_has_193 : decode cX11_has 193 = .ok (.getfield 182, 3) := by decide +kernel
theorem dX11_has_196 : decode cX11_has 196 = .ok (.l2i, 1) := by decide +kernel
theorem dX11_has_197 : decode cX11_has 197 = .ok (.ireturn, 1) := by decide +kernel
theorem dX11_has_198 : decode cX11_has 198 = .ok (.iconst (-1), 1) := by decide +kernel
theorem dX11_has_199 : decode cX11_has 199 = .ok (.ireturn, 1) := by decide +kernel
set_option maxRecDepth 100000 in
set_option maxHeartbeats 4000000 in
theorem X11_has_L90_bok {g : Gm} {w : Wd} (C : Cx g w RX11 cX11_has 4 (some .int)) {lv : Nat} (hlv : 2 < lv) {N : Nat} {r90 : Nat → Int → Int → Option Int} {l0 : Nat} {l2 : Int} {l3 : Int} {m : Mem} {out : Int} (hr90 : ∀ l0 l2 l3, r90 l0 l2 l3 = some out → Jd g w 4 (rmL lv 0 0) (Qm g w (some (vI out)) m) 90 [some (vR l0), none, some (vI l2), some (vI l3)] [] 312 m 0 0) (h : X11_has_L90_b N m r90 l0 l2 l3 = some out) : Jd g w 4 (rmL lv 0 0) (Qm g w (some (vI out)) m) 90 [some (vR l0), none, some (vI l2), some (vI l3)] [] 312 m 0 0 := by
  unfold X11_has_L90_b at h
  refine j_iload_n C dX11_has_90 rfl ?_
  refine j_aload_n C dX11_has_91 rfl ?_
  obtain ⟨p9, ep9, h⟩ := bind_some h
  have qp9 := X11_cells_ct ep9
  refine j_cVI C dX11_has_92 vl_X11_438 CF11 rfl qp9.1 qp9.2 (by omega) rfl rfl (Nat.le_of_ble_eq_true rfl) ?_
  refine j_icmp_ge C 113 dX11_has_95 rfl h (fun c12 h => ?_) (fun c12 h => ?_)
  · refine j_iload_n C dX11_has_113 rfl ?_
    exact j_ri C dX11_has_114 rfl (Option.some.inj h).symm rfl
  · refine j_iload_n C dX11_has_98 rfl ?_
    refine j_aload_n C dX11_has_99 rfl ?_
    refine j_getR C dX11_has_100 CF11 (by decide) fl_X11_167 rfl rfl h (fun t10 h => ?_)
    refine j_iload_n C dX11_has_103 rfl ?_
    refine j_iald C dX11_has_104 rfl h (fun t11 h => ?_)
    refine j_iadd C dX11_has_105 ?_
    refine j_istore_n (ls' := [some (vR _), none, some (vI _), some (vI _)]) C dX11_has_106 (by decide) rfl ?_
    refine j_iinc (ls' := [some (vR _), none, some (vI _), some (vI _)]) C dX11_has_107 rfl (by decide) rfl ?_
    refine j_goto C 90 dX11_has_110 rfl ?_
    exact hr90 _ _ _ h
set_option maxRecDepth 100000 in
set_option maxHeartbeats 4000000 in
theorem X11_has_L90_ok {g : Gm} {w : Wd} (C : Cx g w RX11 cX11_has 4 (some .int)) {lv : Nat} (hlv : 2 < lv) {N : Nat} {m : Mem} {out : Int} (f : Nat) : ∀ {l0 : Nat} {l2 : Int} {l3 : Int}, X11_has_L90 N m f l0 l2 l3 = some out → Jd g w 4 (rmL lv 0 0) (Qm g w (some (vI out)) m) 90 [some (vR l0), none, some (vI l2), some (vI l3)] [] 312 m 0 0 := by
  induction f with
  | zero => intro l0 l2 l3 h; exact none_ne (α := Int) h
  | succ f ih => intro l0 l2 l3 h; exact X11_has_L90_bok C hlv (fun l0 l2 l3 h => ih h) h
set_option maxRecDepth 100000 in
set_option maxHeartbeats 4000000 in
theorem X11_has_ct {N : Nat} {l0 : Nat} {l1 : Int} {m : Mem} {out : Int} (h : X11_has N l0 l1 m = some out) : shK l0 = 11 + 10 ∧ CT yX11_has cX11_has 4 (some .int) 3 0 0 [vR l0, vI l1] 312 m (some (vI out)) 312 m := by
  unfold X11_has at h
  obtain ⟨hK, h⟩ := ite_some h
  have hlv : 2 < 3 := by decide
  refine ⟨hK, CT.of (by decide +kernel) rfl (Nat.le_of_ble_eq_true rfl) (ls := [some (vR l0), some (vI l1), none, none]) rfl fun g w C _ => ?_⟩
  refine j_iconst C dX11_has_0 rfl ?_
  refine j_istore_n (ls' := [some (vR _), some (vI _), some (vI _), none]) C dX11_has_1 (by decide) rfl ?_
  refine j_iload_n C dX11_has_2 rfl ?_
  rcases ite_cases h with ⟨c4, h⟩ | ⟨c4, h⟩
  · refine j_tsIn C 68 (0) dX11_has_3 c4 rfl rfl rfl ?_
    refine j_aload_n C dX11_has_68 rfl ?_
    refine j_getR C dX11_has_69 CF11 (by decide) fl_X11_54 rfl rfl h (fun t1 h => ?_)
    refine j_aload_n C dX11_has_72 rfl ?_
    refine j_getI C dX11_has_73 CF11 (by decide) fl_X11_51 rfl rfl h (fun t2 h => ?_)
    refine j_iald C dX11_has_76 rfl h (fun t3 h => ?_)
    exact j_ri C dX11_has_77 rfl (Option.some.inj h).symm rfl
  rcases ite_cases h with ⟨c8, h⟩ | ⟨c8, h⟩
  · refine j_tsIn C 78 (1) dX11_has_3 c8 rfl rfl rfl ?_
    refine j_aload_n C dX11_has_78 rfl ?_
    refine j_getR C dX11_has_79 CF11 (by decide) fl_X11_57 rfl rfl h (fun t5 h => ?_)
    refine j_aload_n C dX11_has_82 rfl ?_
    refine j_getI C dX11_has_83 CF11 (by decide) fl_X11_51 rfl rfl h (fun t6 h => ?_)
    refine j_iald C dX11_has_86 rfl h (fun t7 h => ?_)
    exact j_ri C dX11_has_87 rfl (Option.some.inj h).symm rfl
  rcases ite_cases h with ⟨c13, h⟩ | ⟨c13, h⟩
  · refine j_tsIn C 88 (2) dX11_has_3 c13 rfl rfl rfl ?_
    refine j_iconst C dX11_has_88 rfl ?_
    refine j_istore_n (ls' := [some (vR _), some (vI _), some (vI _), some (vI _)]) C dX11_has_89 (by decide) rfl ?_
    refine j_mask [true, false, true, true] (ls' := [some (vR _), none, some (vI _), some (vI _)]) rfl ?_
    exact X11_has_L90_ok C hlv N h
  rcases ite_cases h with ⟨c17, h⟩ | ⟨c17, h⟩
  · refine j_tsIn C 115 (3) dX11_has_3 c17 rfl rfl rfl ?_
    refine j_aload_n C dX11_has_115 rfl ?_
    refine j_getR C dX11_has_116 CF11 (by decide) fl_X11_72 rfl rfl h (fun t14 h => ?_)
    refine j_aload_n C dX11_has_119 rfl ?_
    refine j_getI C dX11_has_120 CF11 (by decide) fl_X11_51 rfl rfl h (fun t15 h => ?_)
    refine j_iald C dX11_has_123 rfl h (fun t16 h => ?_)
    exact j_ri C dX11_has_124 rfl (Option.some.inj h).symm rfl
  rcases ite_cases h with ⟨c21, h⟩ | ⟨c21, h⟩
  · refine j_tsIn C 125 (4) dX11_has_3 c21 rfl rfl rfl ?_
    refine j_aload_n C dX11_has_125 rfl ?_
    refine j_getR C dX11_has_126 CF11 (by decide) fl_X11_75 rfl rfl h (fun t18 h => ?_)
    refine j_aload_n C dX11_has_129 rfl ?_
    refine j_getI C dX11_has_130 CF11 (by decide) fl_X11_51 rfl rfl h (fun t19 h => ?_)
    refine j_iald C dX11_has_133 rfl h (fun t20 h => ?_)
    exact j_ri C dX11_has_134 rfl (Option.some.inj h).symm rfl
  rcases ite_cases h with ⟨c25, h⟩ | ⟨c25, h⟩
  · refine j_tsIn C 135 (5) dX11_has_3 c25 rfl rfl rfl ?_
    refine j_aload_n C dX11_has_135 rfl ?_
    refine j_getR C dX11_has_136 CF11 (by decide) fl_X11_81 rfl rfl h (fun t22 h => ?_)
    refine j_aload_n C dX11_has_139 rfl ?_
    refine j_getI C dX11_has_140 CF11 (by decide) fl_X11_51 rfl rfl h (fun t23 h => ?_)
    refine j_iald C dX11_has_143 rfl h (fun t24 h => ?_)
    exact j_ri C dX11_has_144 rfl (Option.some.inj h).symm rfl
  rcases ite_cases h with ⟨c27, h⟩ | ⟨c27, h⟩
  · refine j_tsIn C 145 (6) dX11_has_3 c27 rfl rfl rfl ?_
    refine j_aload_n C dX11_has_145 rfl ?_
    obtain ⟨p26, ep26, h⟩ := bind_some h
    have qp26 := X11_cloths_ct ep26
    refine j_cVI C dX11_has_146 vl_X11_524 CF11 rfl qp26.1 qp26.2 (by omega) rfl rfl (Nat.le_of_ble_eq_true rfl) ?_
    exact j_ri C dX11_has_149 rfl (Option.some.inj h).symm rfl
  rcases ite_cases h with ⟨c31, h⟩ | ⟨c31, h⟩
  · refine j_tsIn C 150 (7) dX11_has_3 c31 rfl rfl rfl ?_
    refine j_aload_n C dX11_has_150 rfl ?_
    refine j_getR C dX11_has_151 CF11 (by decide) fl_X11_108 rfl rfl h (fun t28 h => ?_)
    refine j_aload_n C dX11_has_154 rfl ?_
    refine j_getI C dX11_has_155 CF11 (by decide) fl_X11_51 rfl rfl h (fun t29 h => ?_)
    refine j_iald C dX11_has_158 rfl h (fun t30 h => ?_)
    exact j_ri C dX11_has_159 rfl (Option.some.inj h).symm rfl
  rcases ite_cases h with ⟨c35, h⟩ | ⟨c35, h⟩
  · refine j_tsIn C 160 (8) dX11_has_3 c35 rfl rfl rfl ?_
    refine j_aload_n C dX11_has_160 rfl ?_
    refine j_getR C dX11_has_161 CF11 (by decide) fl_X11_111 rfl rfl h (fun t32 h => ?_)
    refine j_aload_n C dX11_has_164 rfl ?_
    refine j_getI C dX11_has_165 CF11 (by decide) fl_X11_51 rfl rfl h (fun t33 h => ?_)
    refine j_iald C dX11_has_168 rfl h (fun t34 h => ?_)
    exact j_ri C dX11_has_169 rfl (Option.some.inj h).symm rfl
  rcases ite_cases h with ⟨c39, h⟩ | ⟨c39, h⟩
  · refine j_tsIn C 170 (9) dX11_has_3 c39 rfl rfl rfl ?_
    refine j_aload_n C dX11_has_170 rfl ?_
    refine j_getR C dX11_has_171 CF11 (by decide) fl_X11_114 rfl rfl h (fun t36 h => ?_)
    refine j_aload_n C dX11_has_174 rfl ?_
    refine j_getI C dX11_has_175 CF11 (by decide) fl_X11_51 rfl rfl h (fun t37 h => ?_)
    refine j_iald C dX11_has_178 rfl h (fun t38 h => ?_)
    exact j_ri C dX11_has_179 rfl (Option.some.inj h).symm rfl
  rcases ite_cases h with ⟨c42, h⟩ | ⟨c42, h⟩
  · refine j_tsIn C 180 (10) dX11_has_3 c42 rfl rfl rfl ?_
    refine j_aload_n C dX11_has_180 rfl ?_
    refine j_getR C dX11_has_181 CF11 (by decide) fl_X11_164 rfl rfl h (fun t40 h => ?_)
    refine j_iconst C dX11_has_184 rfl ?_
    refine j_iald C dX11_has_185 rfl h (fun t41 h => ?_)
    exact j_ri C dX11_has_186 rfl (Option.some.inj h).symm rfl
  rcases ite_cases h with ⟨c44, h⟩ | ⟨c44, h⟩
  · refine j_tsIn C 187 (11) dX11_has_3 c44 rfl rfl rfl ?_
    refine j_aload_n C dX11_has_187 rfl ?_
    refine j_getI C dX11_has_188 CF11 (by decide) fl_X11_179 rfl rfl h (fun t43 h => ?_)
    exact j_ri C dX11_has_191 rfl (Option.some.inj h).symm rfl
  rcases ite_cases h with ⟨c46, h⟩ | ⟨c46, h⟩
  · refine j_tsIn C 192 (12) dX11_has_3 c46 rfl rfl rfl ?_
    refine j_aload_n C dX11_has_192 rfl ?_
    refine j_getL C dX11_has_193 CF11 (by decide) fl_X11_182 rfl rfl h (fun t45 h => ?_)
    refine j_l2i C dX11_has_196 ?_
    exact j_ri C dX11_has_197 rfl (Option.some.inj h).symm rfl
  refine j_tsOut C 198 dX11_has_3 (by omega) rfl ?_
  refine j_iconst C dX11_has_198 rfl ?_
  exact j_ri C dX11_has_199 rfl (Option.some.inj h).symm rfl
theorem dX11_heighten_0 : decode cX11_heighten 0 = .ok (.aload_n 0, 1) := by decide +kernel
theorem dX11_heighten_1 : decode cX11_heighten 1 = .ok (.iconst 0, 1) := by decide +kernel
theorem dX11_heighten_2 : decode cX11_heighten 2 = .ok (.invokevirtual 382, 3) := by decide +kernel
theorem dX11_heighten_5 : decode cX11_heighten 5 = .ok (.ifCond .ne 4, 3) := by decide +kernel
theorem dX11_heighten_8 : decode cX11_heighten 8 = .ok (.return_, 1) := by decide +kernel
theorem dX11_heighten_9 : decode cX11_heighten 9 = .ok (.aload_n 0, 1) := by decide +kernel
theorem dX11_heighten_10 : decode cX11_heighten 10 = .ok (.iconst 0, 1) := by decide +kernel
theorem dX11_heighten_11 : decode cX11_heighten 11 = .ok (.bipush 9, 2) := by decide +kernel
theorem dX11_heighten_13 : decode cX11_heighten 13 = .ok (.invokevirtual 376, 3) := by decide +kernel
theorem dX11_heighten_16 : decode cX11_heighten 16 = .ok (.istore_n 1, 1) := by decide +kernel
theorem dX11_heighten_17 : decode cX11_heighten 17 = .ok (.aload_n 0, 1) := by decide +kernel
theorem dX11_heighten_18 : decode cX11_heighten 18 = .ok (.iconst 0, 1) := by decide +kernel
theorem dX11_heighten_19 : decode cX11_heighten 19 = .ok (.invokevirtual 386, 3) := by decide +kernel
theorem dX11_heighten_22 : decode cX11_heighten 22 = .ok (.istore_n 2, 1) := by decide +kernel
theorem dX11_heighten_23 : decode cX11_heighten 23 = .ok (.aload_n 0, 1) := by decide +kernel
theorem dX11_heighten_24 : decode cX11_heighten 24 = .ok (.getfield 36, 3) := by decide +kernel
theorem dX11_heighten_27 : decode cX11_heighten 27 = .ok (.ifCond .ne 18, 3) := by decide +kernel
theorem dX11_heighten_30 : decode cX11_heighten 30 = .ok (.aload_n 0, 1) := by decide +kernel
theorem dX11_heighten_31 : decode cX11_heighten 31 = .ok (.getfield 60, 3) := by decide +kernel
theorem dX11_heighten_34 : decode cX11_heighten 34 = .ok (.bipush 42, 2) := by decide +kernel
theorem dX11_heighten_36 : decode cX11_heighten 36 = .ok (.aload_n 0, 1) := by decide +kernel
theorem dX11_heighten_37 : decode cX11_heighten 37 = .ok (.getfield 133, 3) := by decide +kernel
theorem dX11_heighten_40 : decode cX11_heighten 40 = .ok (.imul, 1) := by decide +kernel
theorem dX11_heighten_41 : decode cX11_heighten 41 = .ok (.iload_n 2, 1) := by decide +kernel
theorem dX11_heighten_42 : decode cX11_heighten 42 = .ok (.iadd, 1) := by decide +kernel
theorem dX11_heighten_43 : decode cX11_heighten 43 = .ok (.iload_n 1, 1) := by decide +kernel
theorem dX11_heighten_44 : decode cX11_heighten 44 = .ok (.iastore, 1) := by decide +kernel
theorem dX11_heighten_45 : decode cX11_heighten 45 = .ok (.return_, 1) := by decide +kernel
set_option maxRecDepth 100000 in
set_option maxHeartbeats 4000000 in
theorem X11_heighten_ct {N : Nat} {l0 : Nat} {m : Mem} {out : Mem} (h : X11_heighten N l0 m = some out) : shK l0 = 11 + 10 ∧ CT yX11_heighten cX11_heighten 3 none 6 0 0 [vR l0] 312 m none 312 out := by
  unfold X11_heighten at h
  obtain ⟨hK, h⟩ := ite_some h
  have hlv : 5 < 6 := by decide
  refine ⟨hK, CT.of (by decide +kernel) rfl (Nat.le_of_ble_eq_true rfl) (ls := [some (vR l0), none, none]) rfl fun g w C _ => ?_⟩
  refine j_aload_n C dX11_heighten_0 rfl ?_
  refine j_iconst C dX11_heighten_1 rfl ?_
  obtain ⟨p1, ep1, h⟩ := bind_some h
  have qp1 := X11_counts_ct ep1
  refine j_cVI C dX11_heighten_2 vl_X11_382 CF11 rfl qp1.1 qp1.2 (by omega) rfl rfl (Nat.le_of_ble_eq_true rfl) ?_
  refine j_if_ne C 9 dX11_heighten_5 rfl h (fun c9 h => ?_) (fun c9 h => ?_)
  · refine j_aload_n C dX11_heighten_9 rfl ?_
    refine j_iconst C dX11_heighten_10 rfl ?_
    refine j_bipush C dX11_heighten_11 rfl ?_
    obtain ⟨p2, ep2, h⟩ := bind_some h
    have qp2 := X11_number_ct ep2
    refine j_cVI C dX11_heighten_13 vl_X11_376 CF11 rfl qp2.1 qp2.2 (by omega) rfl rfl (Nat.le_of_ble_eq_true rfl) ?_
    refine j_istore_n (ls' := [some (vR _), some (vI _), none]) C dX11_heighten_16 (by decide) rfl ?_
    refine j_aload_n C dX11_heighten_17 rfl ?_
    refine j_iconst C dX11_heighten_18 rfl ?_
    obtain ⟨p3, ep3, h⟩ := bind_some h
    have qp3 := X11_cellAt_ct ep3
    refine j_cVI C dX11_heighten_19 vl_X11_386 CF11 rfl qp3.1 qp3.2 (by omega) rfl rfl (Nat.le_of_ble_eq_true rfl) ?_
    refine j_istore_n (ls' := [some (vR _), some (vI _), some (vI _)]) C dX11_heighten_22 (by decide) rfl ?_
    refine j_aload_n C dX11_heighten_23 rfl ?_
    refine j_getI C dX11_heighten_24 CF11 (by decide) fl_X11_36 rfl rfl h (fun t4 h => ?_)
    refine j_if_ne C 45 dX11_heighten_27 rfl h (fun c8 h => ?_) (fun c8 h => ?_)
    · have e := Option.some.inj h
      subst e
      exact j_rv C dX11_heighten_45 rfl rfl
    · refine j_aload_n C dX11_heighten_30 rfl ?_
      refine j_getR C dX11_heighten_31 CF11 (by decide) fl_X11_60 rfl rfl h (fun t5 h => ?_)
      refine j_bipush C dX11_heighten_34 rfl ?_
      refine j_aload_n C dX11_heighten_36 rfl ?_
      refine j_getI C dX11_heighten_37 CF11 (by decide) fl_X11_133 rfl rfl h (fun t6 h => ?_)
      refine j_imul C dX11_heighten_40 ?_
      refine j_iload_n C dX11_heighten_41 rfl ?_
      refine j_iadd C dX11_heighten_42 ?_
      refine j_iload_n C dX11_heighten_43 rfl ?_
      refine j_iast C dX11_heighten_44 rfl h (fun m7 h => ?_)
      have e := Option.some.inj h
      subst e
      exact j_rv C dX11_heighten_45 rfl rfl
  · have e := Option.some.inj h
    subst e
    exact j_rv C dX11_heighten_8 rfl rfl
