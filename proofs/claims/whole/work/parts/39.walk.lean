theorem dX11_housing_0 : decode cX11_housing 0 = .ok (.aload_n 0, 1) := by decide +kernel
theorem dX11_housing_1 : decode cX11_housing 1 = .ok (.aload_n 0, 1) := by decide +kernel
theorem dX11_housing_2 : decode cX11_housing 2 = .ok (.getfield 72, 3) := by decide +kernel
theorem dX11_housing_5 : decode cX11_housing 5 = .ok (.aload_n 0, 1) := by decide +kernel
theorem dX11_housing_6 : decode cX11_housing 6 = .ok (.getfield 133, 3) := by decide +kernel
theorem dX11_housing_9 : decode cX11_housing 9 = .ok (.iaload, 1) := by decide +kernel
theorem dX11_housing_10 : decode cX11_housing 10 = .ok (.bipush 6, 2) := by decide +kernel
theorem dX11_housing_12 : decode cX11_housing 12 = .ok (.if_icmp .ne 7, 3) := by decide +kernel
theorem dX11_housing_15 : decode cX11_housing 15 = .ok (.iconst 1, 1) := by decide +kernel
theorem dX11_housing_16 : decode cX11_housing 16 = .ok (.goto 4, 3) := by decide +kernel
theorem dX11_housing_19 : decode cX11_housing 19 = .ok (.iconst 0, 1) := by decide +kernel
theorem dX11_housing_20 : decode cX11_housing 20 = .ok (.invokevirtual 382, 3) := by decide +kernel
theorem dX11_housing_23 : decode cX11_housing 23 = .ok (.ifCond .ne 4, 3) := by decide +kernel
theorem dX11_housing_26 : decode cX11_housing 26 = .ok (.return_, 1) := by decide +kernel
theorem dX11_housing_27 : decode cX11_housing 27 = .ok (.aload_n 0, 1) := by decide +kernel
theorem dX11_housing_28 : decode cX11_housing 28 = .ok (.iconst 1, 1) := by decide +kernel
theorem dX11_housing_29 : decode cX11_housing 29 = .ok (.invokevirtual 386, 3) := by decide +kernel
theorem dX11_housing_32 : decode cX11_housing 32 = .ok (.istore_n 1, 1) := by decide +kernel
theorem dX11_housing_33 : decode cX11_housing 33 = .ok (.aload_n 0, 1) := by decide +kernel
theorem dX11_housing_34 : decode cX11_housing 34 = .ok (.getfield 36, 3) := by decide +kernel
theorem dX11_housing_37 : decode cX11_housing 37 = .ok (.ifCond .le 4, 3) := by decide +kernel
theorem dX11_housing_40 : decode cX11_housing 40 = .ok (.return_, 1) := by decide +kernel
theorem dX11_housing_41 : decode cX11_housing 41 = .ok (.aload_n 0, 1) := by decide +kernel
theorem dX11_housing_42 : decode cX11_housing 42 = .ok (.getfield 66, 3) := by decide +kernel
theorem dX11_housing_45 : decode cX11_housing 45 = .ok (.bipush 42, 2) := by decide +kernel
theorem dX11_housing_47 : decode cX11_housing 47 = .ok (.aload_n 0, 1) := by decide +kernel
theorem dX11_housing_48 : decode cX11_housing 48 = .ok (.getfield 133, 3) := by decide +kernel
theorem dX11_housing_51 : decode cX11_housing 51 = .ok (.imul, 1) := by decide +kernel
theorem dX11_housing_52 : decode cX11_housing 52 = .ok (.iload_n 1, 1) := by decide +kernel
theorem dX11_housing_53 : decode cX11_housing 53 = .ok (.iadd, 1) := by decide +kernel
theorem dX11_housing_54 : decode cX11_housing 54 = .ok (.iconst 1, 1) := by decide +kernel
theorem dX11_housing_55 : decode cX11_housing 55 = .ok (.iastore, 1) := by decide +kernel
theorem dX11_housing_56 : decode cX11_housing 56 = .ok (.aload_n 0, 1) := by decide +kernel
theorem dX11_housing_57 : decode cX11_housing 57 = .ok (.getfield 72, 3) := by decide +kernel
theorem dX11_housing_60 : decode cX11_housing 60 = .ok (.aload_n 0, 1) := by decide +kernel
theorem dX11_housing_61 : decode cX11_housing 61 = .ok (.getfield 133, 3) := by decide +kernel
theorem dX11_housing_64 : decode cX11_housing 64 = .ok (.dup2, 1) := by decide +kernel
theorem dX11_housing_65 : decode cX11_housing 65 = .ok (.iaload, 1) := by decide +kernel
theorem dX11_housing_66 : decode cX11_housing 66 = .ok (.iconst 1, 1) := by decide +kernel
theorem dX11_housing_67 : decode cX11_housing 67 = .ok (.iadd, 1) := by decide +kernel
theorem dX11_housing_68 : decode cX11_housing 68 = .ok (.iastore, 1) := by decide +kernel
theorem dX11_housing_69 : decode cX11_housing 69 = .ok (.return_, 1) := by decide +kernel
set_option maxRecDepth 100000 in
set_option maxHeartbeats 4000000 in
theorem X11_housing_J20_ok {g : Gm} {w : Wd} (C : Cx g w RX11 cX11_housing 2 none) {lv : Nat} (hlv : 5 < lv) {N : Nat} {l0 : Nat} {s0 : Nat} {s1 : Int} {m : Mem} {out : Mem} (h : X11_housing_J20 N l0 s0 s1 m = some out) : Jd g w 2 (rmL lv 0 0) (Qm g w none out) 20 [some (vR l0), none] [vI s1, vR s0] 312 m 0 0 := by
  unfold X11_housing_J20 at h
  obtain ⟨p4, ep4, h⟩ := bind_some h
  have qp4 := X11_counts_ct ep4
  refine j_cVI C dX11_housing_20 vl_X11_382 CF11 rfl qp4.1 qp4.2 (by omega) rfl rfl (Nat.le_of_ble_eq_true rfl) ?_
  refine j_if_ne C 27 dX11_housing_23 rfl h (fun c15 h => ?_) (fun c15 h => ?_)
  · refine j_aload_n C dX11_housing_27 rfl ?_
    refine j_iconst C dX11_housing_28 rfl ?_
    obtain ⟨p5, ep5, h⟩ := bind_some h
    have qp5 := X11_cellAt_ct ep5
    refine j_cVI C dX11_housing_29 vl_X11_386 CF11 rfl qp5.1 qp5.2 (by omega) rfl rfl (Nat.le_of_ble_eq_true rfl) ?_
    refine j_istore_n (ls' := [some (vR _), some (vI _)]) C dX11_housing_32 (by decide) rfl ?_
    refine j_aload_n C dX11_housing_33 rfl ?_
    refine j_getI C dX11_housing_34 CF11 (by decide) fl_X11_36 rfl rfl h (fun t6 h => ?_)
    refine j_if_le C 41 dX11_housing_37 rfl h (fun c14 h => ?_) (fun c14 h => ?_)
    · refine j_aload_n C dX11_housing_41 rfl ?_
      refine j_getR C dX11_housing_42 CF11 (by decide) fl_X11_66 rfl rfl h (fun t7 h => ?_)
      refine j_bipush C dX11_housing_45 rfl ?_
      refine j_aload_n C dX11_housing_47 rfl ?_
      refine j_getI C dX11_housing_48 CF11 (by decide) fl_X11_133 rfl rfl h (fun t8 h => ?_)
      refine j_imul C dX11_housing_51 ?_
      refine j_iload_n C dX11_housing_52 rfl ?_
      refine j_iadd C dX11_housing_53 ?_
      refine j_iconst C dX11_housing_54 rfl ?_
      refine j_iast C dX11_housing_55 rfl h (fun m9 h => ?_)
      refine j_aload_n C dX11_housing_56 rfl ?_
      refine j_getR C dX11_housing_57 CF11 (by decide) fl_X11_72 rfl rfl h (fun t10 h => ?_)
      refine j_aload_n C dX11_housing_60 rfl ?_
      refine j_getI C dX11_housing_61 CF11 (by decide) fl_X11_133 rfl rfl h (fun t11 h => ?_)
      refine j_dup2 C dX11_housing_64 rfl rfl ?_
      refine j_iald C dX11_housing_65 rfl h (fun t12 h => ?_)
      refine j_iconst C dX11_housing_66 rfl ?_
      refine j_iadd C dX11_housing_67 ?_
      refine j_iast C dX11_housing_68 rfl h (fun m13 h => ?_)
      have e := Option.some.inj h
      subst e
      exact j_rv C dX11_housing_69 rfl rfl
    · have e := Option.some.inj h
      subst e
      exact j_rv C dX11_housing_40 rfl rfl
  · have e := Option.some.inj h
    subst e
    exact j_rv C dX11_housing_26 rfl rfl
set_option maxRecDepth 100000 in
set_option maxHeartbeats 4000000 in
theorem X11_housing_ct {N : Nat} {l0 : Nat} {m : Mem} {out : Mem} (h : X11_housing N l0 m = some out) : shK l0 = 11 + 10 ∧ CT yX11_housing cX11_housing 2 none 6 0 0 [vR l0] 312 m none 312 out := by
  unfold X11_housing at h
  obtain ⟨hK, h⟩ := ite_some h
  have hlv : 5 < 6 := by decide
  refine ⟨hK, CT.of (by decide +kernel) rfl (Nat.le_of_ble_eq_true rfl) (ls := [some (vR l0), none]) rfl fun g w C _ => ?_⟩
  refine j_aload_n C dX11_housing_0 rfl ?_
  refine j_aload_n C dX11_housing_1 rfl ?_
  refine j_getR C dX11_housing_2 CF11 (by decide) fl_X11_72 rfl rfl h (fun t1 h => ?_)
  refine j_aload_n C dX11_housing_5 rfl ?_
  refine j_getI C dX11_housing_6 CF11 (by decide) fl_X11_133 rfl rfl h (fun t2 h => ?_)
  refine j_iald C dX11_housing_9 rfl h (fun t3 h => ?_)
  refine j_bipush C dX11_housing_10 rfl ?_
  refine j_icmp_ne C 19 dX11_housing_12 rfl h (fun c16 h => ?_) (fun c16 h => ?_)
  · refine j_iconst C dX11_housing_19 rfl ?_
    exact X11_housing_J20_ok C hlv h
  · refine j_iconst C dX11_housing_15 rfl ?_
    refine j_goto C 20 dX11_housing_16 rfl ?_
    exact X11_housing_J20_ok C hlv h
theorem dX11_writes_0 : decode cX11_writes 0 = .ok (.aload_n 0, 1) := by decide +kernel
theorem dX11_writes_1 : decode cX11_writes 1 = .ok (.getfield 242, 3) := by decide +kernel
theorem dX11_writes_4 : decode cX11_writes 4 = .ok (.aload_n 0, 1) := by decide +kernel
theorem dX11_writes_5 : decode cX11_writes 5 = .ok (.getfield 245, 3) := by decide +kernel
theorem dX11_writes_8 : decode cX11_writes 8 = .ok (.iload_n 1, 1) := by decide +kernel
theorem dX11_writes_9 : decode cX11_writes 9 = .ok (.sipush 255, 3) := by decide +kernel
theorem dX11_writes_12 : decode cX11_writes 12 = .ok (.iand, 1) := by decide +kernel
theorem dX11_writes_13 : decode cX11_writes 13 = .ok (.iastore, 1) := by decide +kernel
theorem dX11_writes_14 : decode cX11_writes 14 = .ok (.aload_n 0, 1) := by decide +kernel
theorem dX11_writes_15 : decode cX11_writes 15 = .ok (.dup, 1) := by decide +kernel
theorem dX11_writes_16 : decode cX11_writes 16 = .ok (.getfield 245, 3) := by decide +kernel
theorem dX11_writes_19 : decode cX11_writes 19 = .ok (.iconst 1, 1) := by decide +kernel
theorem dX11_writes_20 : decode cX11_writes 20 = .ok (.iadd, 1) := by decide +kernel
theorem dX11_writes_21 : decode cX11_writes 21 = .ok (.putfield 245, 3) := by decide +kernel
theorem dX11_writes_24 : decode cX11_writes 24 = .ok (.return_, 1) := by decide +kernel
set_option maxRecDepth 100000 in
set_option maxHeartbeats 4000000 in
theorem X11_writes_ct {l0 : Nat} {l1 : Int} {m : Mem} {out : Mem} (h : X11_writes l0 l1 m = some out) : shK l0 = 11 + 10 ∧ CT yX11_writes cX11_writes 2 none 1 0 0 [vR l0, vI l1] 312 m none 312 out := by
  unfold X11_writes at h
  obtain ⟨hK, h⟩ := ite_some h
  have hlv : 0 < 1 := by decide
  refine ⟨hK, CT.of (by decide +kernel) rfl (Nat.le_of_ble_eq_true rfl) (ls := [some (vR l0), some (vI l1)]) rfl fun g w C _ => ?_⟩
  refine j_aload_n C dX11_writes_0 rfl ?_
  refine j_getR C dX11_writes_1 CF11 (by decide) fl_X11_242 rfl rfl h (fun t1 h => ?_)
  refine j_aload_n C dX11_writes_4 rfl ?_
  refine j_getI C dX11_writes_5 CF11 (by decide) fl_X11_245 rfl rfl h (fun t2 h => ?_)
  refine j_iload_n C dX11_writes_8 rfl ?_
  refine j_sipush C dX11_writes_9 rfl ?_
  refine j_iand C dX11_writes_12 ?_
  refine j_iast C dX11_writes_13 rfl h (fun m3 h => ?_)
  refine j_aload_n C dX11_writes_14 rfl ?_
  refine j_dup C dX11_writes_15 rfl ?_
  refine j_getI C dX11_writes_16 CF11 (by decide) fl_X11_245 rfl rfl h (fun t4 h => ?_)
  refine j_iconst C dX11_writes_19 rfl ?_
  refine j_iadd C dX11_writes_20 ?_
  refine j_putI C dX11_writes_21 CF11 (by decide) fl_X11_245 rfl rfl rfl rfl h (fun m5 h => ?_)
  have e := Option.some.inj h
  subst e
  exact j_rv C dX11_writes_24 rfl rfl
theorem dX11_image_0 : decode cX11_image 0 = .ok (.aload_n 0, 1) := by decide +kernel
theorem dX11_image_1 : decode cX11_image 1 = .ok (.iconst 0, 1) := by decide +kernel
theorem dX11_image_2 : decode cX11_image 2 = .ok (.putfield 245, 3) := by decide +kernel
theorem dX11_image_5 : decode cX11_image 5 = .ok (.aload_n 0, 1) := by decide +kernel
theorem dX11_image_6 : decode cX11_image 6 = .ok (.aload_n 0, 1) := by decide +kernel
theorem dX11_image_7 : decode cX11_image 7 = .ok (.getfield 164, 3) := by decide +kernel
theorem dX11_image_10 : decode cX11_image 10 = .ok (.iconst 0, 1) := by decide +kernel
theorem dX11_image_11 : decode cX11_image 11 = .ok (.iaload, 1) := by decide +kernel
theorem dX11_image_12 : decode cX11_image 12 = .ok (.bipush 8, 2) := by decide +kernel
theorem dX11_image_14 : decode cX11_image 14 = .ok (.ishr, 1) := by decide +kernel
theorem dX11_image_15 : decode cX11_image 15 = .ok (.invokevirtual 614, 3) := by decide +kernel
theorem dX11_image_18 : decode cX11_image 18 = .ok (.aload_n 0, 1) := by decide +kernel
theorem dX11_image_19 : decode cX11_image 19 = .ok (.aload_n 0, 1) := by decide +kernel
theorem dX11_image_20 : decode cX11_image 20 = .ok (.getfield 164, 3) := by decide +kernel
theorem dX11_image_23 : decode cX11_image 23 = .ok (.iconst 0, 1) := by decide +kernel
theorem dX11_image_24 : decode cX11_image 24 = .ok (.iaload, 1) := by decide +kernel
theorem dX11_image_25 : decode cX11_image 25 = .ok (.invokevirtual 614, 3) := by decide +kernel
theorem dX11_image_28 : decode cX11_image 28 = .ok (.iconst 0, 1) := by decide +kernel
theorem dX11_image_29 : decode cX11_image 29 = .ok (.istore_n 1, 1) := by decide +kernel
theorem dX11_image_30 : decode cX11_image 30 = .ok (.iload_n 1, 1) := by decide +kernel
theorem dX11_image_31 : decode cX11_image 31 = .ok (.aload_n 0, 1) := by decide +kernel
theorem dX11_image_32 : decode cX11_image 32 = .ok (.invokevirtual 438, 3) := by decide +kernel
theorem dX11_image_35 : decode cX11_image 35 = .ok (.if_icmp .ge 19, 3) := by decide +kernel
theorem dX11_image_38 : decode cX11_image 38 = .ok (.aload_n 0, 1) := by decide +kernel
theorem dX11_image_39 : decode cX11_image 39 = .ok (.aload_n 0, 1) := by decide +kernel
theorem dX11_image_40 : decode cX11_image 40 = .ok (.getfield 167, 3) := by decide +kernel
theorem dX11_image_43 : decode cX11_image 43 = .ok (.iload_n 1, 1) := by decide +kernel
theorem dX11_image_44 : decode cX11_image 44 = .ok (.iaload, 1) := by decide +kernel
theorem dX11_image_45 : decode cX11_image 45 = .ok (.invokevirtual 614, 3) := by decide +kernel
theorem dX11_image_48 : decode cX11_image 48 = .ok (.iinc 1 1, 3) := by decide +kernel
theorem dX11_image_51 : decode cX11_image 51 = .ok (.goto (-21), 3) := by decide +kernel
theorem dX11_image_54 : decode cX11_image 54 = .ok (.iconst 0, 1) := by decide +kernel
theorem dX11_image_55 : decode cX11_image 55 = .ok (.istore_n 1, 1) := by decide +kernel
theorem dX11_image_56 : decode cX11_image 56 = .ok (.iload_n 1, 1) := by decide +kernel
theorem dX11_image_57 : decode cX11_image 57 = .ok (.aload_n 0, 1) := by decide +kernel
theorem dX11_image_58 : decode cX11_image 58 = .ok (.invokevirtual 524, 3) := by decide +kernel
theorem dX11_image_61 : decode cX11_image 61 = .ok (.if_icmp .ge 23, 3) := by decide +kernel
theorem dX11_image_64 : decode cX11_image 64 = .ok (.aload_n 0, 1) := by decide +kernel
theorem dX11_image_65 : decode cX11_image 65 = .ok (.aload_n 0, 1) := by decide +kernel
theorem dX11_image_66 : decode cX11_image 66 = .ok (.getfield 170, 3) := by decide +kernel
theorem dX11_image_69 : decode cX11_image 69 = .ok (.aload_n 0, 1) := by decide +kernel
theorem dX11_image_70 : decode cX11_image 70 = .ok (.iload_n 1, 1) := by decide +kernel
theorem dX11_image_71 : decode cX11_image 71 = .ok (.invokevirtual 527, 3) := by decide +kernel
theorem dX11_image_74 : decode cX11_image 74 = .ok (.iaload, 1) := by decide +kernel
theorem dX11_image_75 : decode cX11_image 75 = .ok (.invokevirtual 614, 3) := by decide +kernel
theorem dX11_image_78 : decode cX11_image 78 = .ok (.iinc 1 1, 3) := by decide +kernel
theorem dX11_image_81 : decode cX11_image 81 = .ok (.goto (-25), 3) := by decide +kernel
theorem dX11_image_84 : decode cX11_image 84 = .ok (.iconst 0, 1) := by decide +kernel
theorem dX11_image_85 : decode cX11_image 85 = .ok (.istore_n 1, 1) := by decide +kernel
theorem dX11_image_86 : decode cX11_image 86 = .ok (.iload_n 1, 1) := by decide +kernel
theorem dX11_image_87 : decode cX11_image 87 = .ok (.aload_n 0, 1) := by decide +kernel
theorem dX11_image_88 : decode cX11_image 88 = .ok (.getfield 75, 3) := by decide +kernel
theorem dX11_image_91 : decode cX11_image 91 = .ok (.aload_n 0, 1) := by decide +kernel
theorem dX11_image_92 : decode cX11_image 92 = .ok (.getfield 51, 3) := by decide +kernel
theorem dX11_image_95 : decode cX11_image 95 = .ok (.iaload, 1) := by decide +kernel
theorem dX11_image_96 : decode cX11_image 96 = .ok (.if_icmp .ge 32, 3) := by decide +kernel
theorem dX11_image_99 : decode cX11_image 99 = .ok (.aload_n 0, 1) := by decide +kernel
theorem dX11_image_100 : decode cX11_image 100 = .ok (.aload_n 0, 1) := by decide +kernel
theorem dX11_image_101 : decode cX11_image 101 = .ok (.getfield 173, 3) := by decide +kernel
theorem dX11_image_104 : decode cX11_image 104 = .ok (.iload_n 1, 1) := by decide +kernel
theorem dX11_image_105 : decode cX11_image 105 = .ok (.iaload, 1) := by decide +kernel
theorem dX11_image_106 : decode cX11_image 106 = .ok (.bipush 8, 2) := by decide +kernel
theorem dX11_image_108 : decode cX11_image 108 = .ok (.ishr, 1) := by decide +kernel
theorem dX11_image_109 : decode cX11_image 109 = .ok (.invokevirtual 614, 3) := by decide +kernel
theorem dX11_image_112 : decode cX11_image 112 = .ok (.aload_n 0, 1) := by decide +kernel
theorem dX11_image_113 : decode cX11_image 113 = .ok (.aload_n 0, 1) := by decide +kernel
theorem dX11_image_114 : decode cX11_image 114 = .ok (.getfield 173, 3) := by decide +kernel
theorem dX11_image_117 : decode cX11_image 117 = .ok (.iload_n 1, 1) := by decide +kernel
theorem dX11_image_118 : decode cX11_image 118 = .ok (.iaload, 1) := by decide +kernel
theorem dX11_image_119 : decode cX11_image 119 = .ok (.invokevirtual 614, 3) := by decide +kernel
theorem dX11_image_122 : decode cX11_image 122 = .ok (.iinc 1 1, 3) := by decide +kernel
theorem dX11_image_125 : decode cX11_image 125 = .ok (.goto (-39), 3) := by decide +kernel
theorem dX11_image_128 : decode cX11_image 128 = .ok (.bipush 79, 2) := by decide +kernel
theorem dX11_image_130 : decode cX11_image 130 = .ok (.istore_n 1, 1) := by decide +kernel
theorem dX11_image_131 : decode cX11_image 131 = .ok (.iconst 0, 1) := by decide +kernel
theorem dX11_image_132 : decode cX11_image 132 = .ok (.istore_n 2, 1) := by decide +kernel
theorem dX11_image_133 : decode cX11_image 133 = .ok (.iload_n 2, 1) := by decide +kernel
theorem dX11_image_134 : decode cX11_image 134 = .ok (.aload_n 0, 1) := by decide +kernel
theorem dX11_image_135 : decode cX11_image 135 = .ok (.getfield 245, 3) := by decide +kernel
theorem dX11_image_138 : decode cX11_image 138 = .ok (.if_icmp .ge 24, 3) := by decide +kernel
theorem dX11_image_141 : decode cX11_image 141 = .ok (.iconst 5, 1) := by decide +kernel
theorem dX11_image_142 : decode cX11_image 142 = .ok (.iload_n 1, 1) := by decide +kernel
theorem dX11_image_143 : decode cX11_image 143 = .ok (.imul, 1) := by decide +kernel
theorem dX11_image_144 : decode cX11_image 144 = .ok (.aload_n 0, 1) := by decide +kernel
theorem dX11_image_145 : decode cX11_image 145 = .ok (.getfield 242, 3) := by decide +kernel
theorem dX11_image_148 : decode cX11_image 148 = .ok (.iload_n 2, 1) := by decide +kernel
theorem dX11_image_149 : decode cX11_image 149 = .ok (.iaload, 1) := by decide +kernel
theorem dX11_image_150 : decode cX11_image 150 = .ok (.iadd, 1) := by decide +kernel
theorem dX11_image_151 : decode cX11_image 151 = .ok (.sipush 251, 3) := by decide +kernel
theorem dX11_image_154 : decode cX11_image 154 = .ok (.irem, 1) := by decide +kernel
theorem dX11_image_155 : decode cX11_image 155 = .ok (.istore_n 1, 1) := by decide +kernel
theorem dX11_image_156 : decode cX11_image 156 = .ok (.iinc 2 1, 3) := by decide +kernel
theorem dX11_image_159 : decode cX11_image 159 = .ok (.goto (-26), 3) := by decide +kernel
theorem dX11_image_162 : decode cX11_image 162 = .ok (.aload_n 0, 1) := by decide +kernel
theorem dX11_image_163 : decode cX11_image 163 = .ok (.iload_n 1, 1) := by decide +kernel
theorem dX11_image_164 : decode cX11_image 164 = .ok (.invokevirtual 614, 3) := by decide +kernel
theorem dX11_image_167 : decode cX11_image 167 = .ok (.aload_n 0, 1) := by decide +kernel
theorem dX11_image_168 : decode cX11_image 168 = .ok (.getfield 245, 3) := by decide +kernel
theorem dX11_image_171 : decode cX11_image 171 = .ok (.ireturn, 1) := by decide +kernel
set_option maxRecDepth 100000 in
set_option maxHeartbeats 4000000 in
theorem X11_image_L30_bok {g : Gm} {w : Wd} (C : Cx g w RX11 cX11_image 3 (some .int)) {lv : Nat} (hlv : 2 < lv) {N : Nat} {k54 : Nat → Mem → Option (Int × Mem)} {r30 : Nat → Int → Mem → Option (Int × Mem)} {l0 : Nat} {l1 : Int} {m : Mem} {out : (Int × Mem)} (hk54 : ∀ l0 m, k54 l0 m = some out → Jd g w 3 (rmL lv 0 0) (Qm g w (some (vI out.1)) out.2) 54 [some (vR l0), none, none] [] 312 m 0 0) (hr30 : ∀ l0 l1 m, r30 l0 l1 m = some out → Jd g w 3 (rmL lv 0 0) (Qm g w (some (vI out.1)) out.2) 30 [some (vR l0), some (vI l1), none] [] 312 m 0 0) (h : X11_image_L30_b N k54 r30 l0 l1 m = some out) : Jd g w 3 (rmL lv 0 0) (Qm g w (some (vI out.1)) out.2) 30 [some (vR l0), some (vI l1), none] [] 312 m 0 0 := by
  unfold X11_image_L30_b at h
  refine j_iload_n C dX11_image_30 rfl ?_
  refine j_aload_n C dX11_image_31 rfl ?_
  obtain ⟨p8, ep8, h⟩ := bind_some h
  have qp8 := X11_cells_ct ep8
  refine j_cVI C dX11_image_32 vl_X11_438 CF11 rfl qp8.1 qp8.2 (by omega) rfl rfl (Nat.le_of_ble_eq_true rfl) ?_
  refine j_icmp_ge C 54 dX11_image_35 rfl h (fun c12 h => ?_) (fun c12 h => ?_)
  · refine j_mask [true, false, false] (ls' := [some (vR _), none, none]) rfl ?_
    exact hk54 _ _ h
  · refine j_aload_n C dX11_image_38 rfl ?_
    refine j_aload_n C dX11_image_39 rfl ?_
    refine j_getR C dX11_image_40 CF11 (by decide) fl_X11_167 rfl rfl h (fun t9 h => ?_)
    refine j_iload_n C dX11_image_43 rfl ?_
    refine j_iald C dX11_image_44 rfl h (fun t10 h => ?_)
    obtain ⟨p11, ep11, h⟩ := bind_some h
    have qp11 := X11_writes_ct ep11
    refine j_cVV C dX11_image_45 vl_X11_614 CF11 rfl qp11.1 qp11.2 (by omega) rfl rfl (Nat.le_of_ble_eq_true rfl) ?_
    refine j_iinc (ls' := [some (vR _), some (vI _), none]) C dX11_image_48 rfl (by decide) rfl ?_
    refine j_goto C 30 dX11_image_51 rfl ?_
    exact hr30 _ _ _ h
set_option maxRecDepth 100000 in
set_option maxHeartbeats 4000000 in
theorem X11_image_L30_ok {g : Gm} {w : Wd} (C : Cx g w RX11 cX11_image 3 (some .int)) {lv : Nat} (hlv : 2 < lv) {N : Nat} {k54 : Nat → Mem → Option (Int × Mem)} {out : (Int × Mem)} (hk54 : ∀ l0 m, k54 l0 m = some out → Jd g w 3 (rmL lv 0 0) (Qm g w (some (vI out.1)) out.2) 54 [some (vR l0), none, none] [] 312 m 0 0) (f : Nat) : ∀ {l0 : Nat} {l1 : Int} {m : Mem}, X11_image_L30 N k54 f l0 l1 m = some out → Jd g w 3 (rmL lv 0 0) (Qm g w (some (vI out.1)) out.2) 30 [some (vR l0), some (vI l1), none] [] 312 m 0 0 := by
  induction f with
  | zero => intro l0 l1 m h; exact none_ne (α := (Int × Mem)) h
  | succ f ih => intro l0 l1 m h; exact X11_image_L30_bok C hlv hk54 (fun l0 l1 m h => ih h) h
set_option maxRecDepth 100000 in
set_option maxHeartbeats 4000000 in
theorem X11_image_L56_bok {g : Gm} {w : Wd} (C : Cx g w RX11 cX11_image 3 (some .int)) {lv : Nat} (hlv : 2 < lv) {N : Nat} {k84 : Nat → Mem → Option (Int × Mem)} {r56 : Nat → Int → Mem → Option (Int × Mem)} {l0 : Nat} {l1 : Int} {m : Mem} {out : (Int × Mem)} (hk84 : ∀ l0 m, k84 l0 m = some out → Jd g w 3 (rmL lv 0 0) (Qm g w (some (vI out.1)) out.2) 84 [some (vR l0), none, none] [] 312 m 0 0) (hr56 : ∀ l0 l1 m, r56 l0 l1 m = some out → Jd g w 3 (rmL lv 0 0) (Qm g w (some (vI out.1)) out.2) 56 [some (vR l0), some (vI l1), none] [] 312 m 0 0) (h : X11_image_L56_b N k84 r56 l0 l1 m = some out) : Jd g w 3 (rmL lv 0 0) (Qm g w (some (vI out.1)) out.2) 56 [some (vR l0), some (vI l1), none] [] 312 m 0 0 := by
  unfold X11_image_L56_b at h
  refine j_iload_n C dX11_image_56 rfl ?_
  refine j_aload_n C dX11_image_57 rfl ?_
  obtain ⟨p15, ep15, h⟩ := bind_some h
  have qp15 := X11_cloths_ct ep15
  refine j_cVI C dX11_image_58 vl_X11_524 CF11 rfl qp15.1 qp15.2 (by omega) rfl rfl (Nat.le_of_ble_eq_true rfl) ?_
  refine j_icmp_ge C 84 dX11_image_61 rfl h (fun c20 h => ?_) (fun c20 h => ?_)
  · refine j_mask [true, false, false] (ls' := [some (vR _), none, none]) rfl ?_
    exact hk84 _ _ h
  · refine j_aload_n C dX11_image_64 rfl ?_
    refine j_aload_n C dX11_image_65 rfl ?_
    refine j_getR C dX11_image_66 CF11 (by decide) fl_X11_170 rfl rfl h (fun t16 h => ?_)
    refine j_aload_n C dX11_image_69 rfl ?_
    refine j_iload_n C dX11_image_70 rfl ?_
    obtain ⟨p17, ep17, h⟩ := bind_some h
    have qp17 := X11_cloth_ct ep17
    refine j_cVI C dX11_image_71 vl_X11_527 CF11 rfl qp17.1 qp17.2 (by omega) rfl rfl (Nat.le_of_ble_eq_true rfl) ?_
    refine j_iald C dX11_image_74 rfl h (fun t18 h => ?_)
    obtain ⟨p19, ep19, h⟩ := bind_some h
    have qp19 := X11_writes_ct ep19
    refine j_cVV C dX11_image_75 vl_X11_614 CF11 rfl qp19.1 qp19.2 (by omega) rfl rfl (Nat.le_of_ble_eq_true rfl) ?_
    refine j_iinc (ls' := [some (vR _), some (vI _), none]) C dX11_image_78 rfl (by decide) rfl ?_
    refine j_goto C 56 dX11_image_81 rfl ?_
    exact hr56 _ _ _ h
set_option maxRecDepth 100000 in
set_option maxHeartbeats 4000000 in
theorem X11_image_L56_ok {g : Gm} {w : Wd} (C : Cx g w RX11 cX11_image 3 (some .int)) {lv : Nat} (hlv : 2 < lv) {N : Nat} {k84 : Nat → Mem → Option (Int × Mem)} {out : (Int × Mem)} (hk84 : ∀ l0 m, k84 l0 m = some out → Jd g w 3 (rmL lv 0 0) (Qm g w (some (vI out.1)) out.2) 84 [some (vR l0), none, none] [] 312 m 0 0) (f : Nat) : ∀ {l0 : Nat} {l1 : Int} {m : Mem}, X11_image_L56 N k84 f l0 l1 m = some out → Jd g w 3 (rmL lv 0 0) (Qm g w (some (vI out.1)) out.2) 56 [some (vR l0), some (vI l1), none] [] 312 m 0 0 := by
  induction f with
  | zero => intro l0 l1 m h; exact none_ne (α := (Int × Mem)) h
  | succ f ih => intro l0 l1 m h; exact X11_image_L56_bok C hlv hk84 (fun l0 l1 m h => ih h) h
set_option maxRecDepth 100000 in
set_option maxHeartbeats 4000000 in
theorem X11_image_L86_bok {g : Gm} {w : Wd} (C : Cx g w RX11 cX11_image 3 (some .int)) {lv : Nat} (hlv : 2 < lv) {N : Nat} {k128 : Nat → Mem → Option (Int × Mem)} {r86 : Nat → Int → Mem → Option (Int × Mem)} {l0 : Nat} {l1 : Int} {m : Mem} {out : (Int × Mem)} (hk128 : ∀ l0 m, k128 l0 m = some out → Jd g w 3 (rmL lv 0 0) (Qm g w (some (vI out.1)) out.2) 128 [some (vR l0), none, none] [] 312 m 0 0) (hr86 : ∀ l0 l1 m, r86 l0 l1 m = some out → Jd g w 3 (rmL lv 0 0) (Qm g w (some (vI out.1)) out.2) 86 [some (vR l0), some (vI l1), none] [] 312 m 0 0) (h : X11_image_L86_b N k128 r86 l0 l1 m = some out) : Jd g w 3 (rmL lv 0 0) (Qm g w (some (vI out.1)) out.2) 86 [some (vR l0), some (vI l1), none] [] 312 m 0 0 := by
  unfold X11_image_L86_b at h
  refine j_iload_n C dX11_image_86 rfl ?_
  refine j_aload_n C dX11_image_87 rfl ?_
  refine j_getR C dX11_image_88 CF11 (by decide) fl_X11_75 rfl rfl h (fun t23 h => ?_)
  refine j_aload_n C dX11_image_91 rfl ?_
  refine j_getI C dX11_image_92 CF11 (by decide) fl_X11_51 rfl rfl h (fun t24 h => ?_)
  refine j_iald C dX11_image_95 rfl h (fun t25 h => ?_)
  refine j_icmp_ge C 128 dX11_image_96 rfl h (fun c32 h => ?_) (fun c32 h => ?_)
  · refine j_mask [true, false, false] (ls' := [some (vR _), none, none]) rfl ?_
    exact hk128 _ _ h
  · refine j_aload_n C dX11_image_99 rfl ?_
    refine j_aload_n C dX11_image_100 rfl ?_
    refine j_getR C dX11_image_101 CF11 (by decide) fl_X11_173 rfl rfl h (fun t26 h => ?_)
    refine j_iload_n C dX11_image_104 rfl ?_
    refine j_iald C dX11_image_105 rfl h (fun t27 h => ?_)
    refine j_bipush C dX11_image_106 rfl ?_
    refine j_ishr C dX11_image_108 ?_
    obtain ⟨p28, ep28, h⟩ := bind_some h
    have qp28 := X11_writes_ct ep28
    refine j_cVV C dX11_image_109 vl_X11_614 CF11 rfl qp28.1 qp28.2 (by omega) rfl rfl (Nat.le_of_ble_eq_true rfl) ?_
    refine j_aload_n C dX11_image_112 rfl ?_
    refine j_aload_n C dX11_image_113 rfl ?_
    refine j_getR C dX11_image_114 CF11 (by decide) fl_X11_173 rfl rfl h (fun t29 h => ?_)
    refine j_iload_n C dX11_image_117 rfl ?_
    refine j_iald C dX11_image_118 rfl h (fun t30 h => ?_)
    obtain ⟨p31, ep31, h⟩ := bind_some h
    have qp31 := X11_writes_ct ep31
    refine j_cVV C dX11_image_119 vl_X11_614 CF11 rfl qp31.1 qp31.2 (by omega) rfl rfl (Nat.le_of_ble_eq_true rfl) ?_
    refine j_iinc (ls' := [some (vR _), some (vI _), none]) C dX11_image_122 rfl (by decide) rfl ?_
    refine j_goto C 86 dX11_image_125 rfl ?_
    exact hr86 _ _ _ h
set_option maxRecDepth 100000 in
set_option maxHeartbeats 4000000 in
theorem X11_image_L86_ok {g : Gm} {w : Wd} (C : Cx g w RX11 cX11_image 3 (some .int)) {lv : Nat} (hlv : 2 < lv) {N : Nat} {k128 : Nat → Mem → Option (Int × Mem)} {out : (Int × Mem)} (hk128 : ∀ l0 m, k128 l0 m = some out → Jd g w 3 (rmL lv 0 0) (Qm g w (some (vI out.1)) out.2) 128 [some (vR l0), none, none] [] 312 m 0 0) (f : Nat) : ∀ {l0 : Nat} {l1 : Int} {m : Mem}, X11_image_L86 N k128 f l0 l1 m = some out → Jd g w 3 (rmL lv 0 0) (Qm g w (some (vI out.1)) out.2) 86 [some (vR l0), some (vI l1), none] [] 312 m 0 0 := by
  induction f with
  | zero => intro l0 l1 m h; exact none_ne (α := (Int × Mem)) h
  | succ f ih => intro l0 l1 m h; exact X11_image_L86_bok C hlv hk128 (fun l0 l1 m h => ih h) h
set_option maxRecDepth 100000 in
set_option maxHeartbeats 4000000 in
theorem X11_image_L133_bok {g : Gm} {w : Wd} (C : Cx g w RX11 cX11_image 3 (some .int)) {lv : Nat} (hlv : 2 < lv) {N : Nat} {k162 : Nat → Int → Mem → Option (Int × Mem)} {r133 : Nat → Int → Int → Mem → Option (Int × Mem)} {l0 : Nat} {l1 : Int} {l2 : Int} {m : Mem} {out : (Int × Mem)} (hk162 : ∀ l0 l1 m, k162 l0 l1 m = some out → Jd g w 3 (rmL lv 0 0) (Qm g w (some (vI out.1)) out.2) 162 [some (vR l0), some (vI l1), none] [] 312 m 0 0) (hr133 : ∀ l0 l1 l2 m, r133 l0 l1 l2 m = some out → Jd g w 3 (rmL lv 0 0) (Qm g w (some (vI out.1)) out.2) 133 [some (vR l0), some (vI l1), some (vI l2)] [] 312 m 0 0) (h : X11_image_L133_b N k162 r133 l0 l1 l2 m = some out) : Jd g w 3 (rmL lv 0 0) (Qm g w (some (vI out.1)) out.2) 133 [some (vR l0), some (vI l1), some (vI l2)] [] 312 m 0 0 := by
  unfold X11_image_L133_b at h
  refine j_iload_n C dX11_image_133 rfl ?_
  refine j_aload_n C dX11_image_134 rfl ?_
  refine j_getI C dX11_image_135 CF11 (by decide) fl_X11_245 rfl rfl h (fun t35 h => ?_)
  refine j_icmp_ge C 162 dX11_image_138 rfl h (fun c38 h => ?_) (fun c38 h => ?_)
  · refine j_mask [true, true, false] (ls' := [some (vR _), some (vI _), none]) rfl ?_
    exact hk162 _ _ _ h
  · refine j_iconst C dX11_image_141 rfl ?_
    refine j_iload_n C dX11_image_142 rfl ?_
    refine j_imul C dX11_image_143 ?_
    refine j_aload_n C dX11_image_144 rfl ?_
    refine j_getR C dX11_image_145 CF11 (by decide) fl_X11_242 rfl rfl h (fun t36 h => ?_)
    refine j_iload_n C dX11_image_148 rfl ?_
    refine j_iald C dX11_image_149 rfl h (fun t37 h => ?_)
    refine j_iadd C dX11_image_150 ?_
    refine j_sipush C dX11_image_151 rfl ?_
    refine j_irem C dX11_image_154 (by decide) ?_
    refine j_istore_n (ls' := [some (vR _), some (vI _), some (vI _)]) C dX11_image_155 (by decide) rfl ?_
    refine j_iinc (ls' := [some (vR _), some (vI _), some (vI _)]) C dX11_image_156 rfl (by decide) rfl ?_
    refine j_goto C 133 dX11_image_159 rfl ?_
    exact hr133 _ _ _ _ h
set_option maxRecDepth 100000 in
set_option maxHeartbeats 4000000 in
theorem X11_image_L133_ok {g : Gm} {w : Wd} (C : Cx g w RX11 cX11_image 3 (some .int)) {lv : Nat} (hlv : 2 < lv) {N : Nat} {k162 : Nat → Int → Mem → Option (Int × Mem)} {out : (Int × Mem)} (hk162 : ∀ l0 l1 m, k162 l0 l1 m = some out → Jd g w 3 (rmL lv 0 0) (Qm g w (some (vI out.1)) out.2) 162 [some (vR l0), some (vI l1), none] [] 312 m 0 0) (f : Nat) : ∀ {l0 : Nat} {l1 : Int} {l2 : Int} {m : Mem}, X11_image_L133 N k162 f l0 l1 l2 m = some out → Jd g w 3 (rmL lv 0 0) (Qm g w (some (vI out.1)) out.2) 133 [some (vR l0), some (vI l1), some (vI l2)] [] 312 m 0 0 := by
  induction f with
  | zero => intro l0 l1 l2 m h; exact none_ne (α := (Int × Mem)) h
  | succ f ih => intro l0 l1 l2 m h; exact X11_image_L133_bok C hlv hk162 (fun l0 l1 l2 m h => ih h) h
set_option maxRecDepth 100000 in
set_option maxHeartbeats 4000000 in
theorem X11_image_ct {N : Nat} {l0 : Nat} {m : Mem} {out : (Int × Mem)} (h : X11_image N l0 m = some out) : shK l0 = 11 + 10 ∧ CT yX11_image cX11_image 3 (some .int) 3 0 0 [vR l0] 312 m (some (vI out.1)) 312 out.2 := by
  unfold X11_image at h
  obtain ⟨hK, h⟩ := ite_some h
  have hlv : 2 < 3 := by decide
  refine ⟨hK, CT.of (by decide +kernel) rfl (Nat.le_of_ble_eq_true rfl) (ls := [some (vR l0), none, none]) rfl fun g w C _ => ?_⟩
  refine j_aload_n C dX11_image_0 rfl ?_
  refine j_iconst C dX11_image_1 rfl ?_
  refine j_putI C dX11_image_2 CF11 (by decide) fl_X11_245 rfl rfl rfl rfl h (fun m1 h => ?_)
  refine j_aload_n C dX11_image_5 rfl ?_
  refine j_aload_n C dX11_image_6 rfl ?_
  refine j_getR C dX11_image_7 CF11 (by decide) fl_X11_164 rfl rfl h (fun t2 h => ?_)
  refine j_iconst C dX11_image_10 rfl ?_
  refine j_iald C dX11_image_11 rfl h (fun t3 h => ?_)
  refine j_bipush C dX11_image_12 rfl ?_
  refine j_ishr C dX11_image_14 ?_
  obtain ⟨p4, ep4, h⟩ := bind_some h
  have qp4 := X11_writes_ct ep4
  refine j_cVV C dX11_image_15 vl_X11_614 CF11 rfl qp4.1 qp4.2 (by omega) rfl rfl (Nat.le_of_ble_eq_true rfl) ?_
  refine j_aload_n C dX11_image_18 rfl ?_
  refine j_aload_n C dX11_image_19 rfl ?_
  refine j_getR C dX11_image_20 CF11 (by decide) fl_X11_164 rfl rfl h (fun t5 h => ?_)
  refine j_iconst C dX11_image_23 rfl ?_
  refine j_iald C dX11_image_24 rfl h (fun t6 h => ?_)
  obtain ⟨p7, ep7, h⟩ := bind_some h
  have qp7 := X11_writes_ct ep7
  refine j_cVV C dX11_image_25 vl_X11_614 CF11 rfl qp7.1 qp7.2 (by omega) rfl rfl (Nat.le_of_ble_eq_true rfl) ?_
  refine j_iconst C dX11_image_28 rfl ?_
  refine j_istore_n (ls' := [some (vR _), some (vI _), none]) C dX11_image_29 (by decide) rfl ?_
  refine X11_image_L30_ok C hlv (fun z13 m14 h => ?_) N h
  refine j_iconst C dX11_image_54 rfl ?_
  refine j_istore_n (ls' := [some (vR _), some (vI _), none]) C dX11_image_55 (by decide) rfl ?_
  refine X11_image_L56_ok C hlv (fun z21 m22 h => ?_) N h
  refine j_iconst C dX11_image_84 rfl ?_
  refine j_istore_n (ls' := [some (vR _), some (vI _), none]) C dX11_image_85 (by decide) rfl ?_
  refine X11_image_L86_ok C hlv (fun z33 m34 h => ?_) N h
  refine j_bipush C dX11_image_128 rfl ?_
  refine j_istore_n (ls' := [some (vR _), some (vI _), none]) C dX11_image_130 (by decide) rfl ?_
  refine j_iconst C dX11_image_131 rfl ?_
  refine j_istore_n (ls' := [some (vR _), some (vI _), some (vI _)]) C dX11_image_132 (by decide) rfl ?_
  refine X11_image_L133_ok C hlv (fun z39 z40 m41 h => ?_) N h
  refine j_aload_n C dX11_image_162 rfl ?_
  refine j_iload_n C dX11_image_163 rfl ?_
  obtain ⟨p42, ep42, h⟩ := bind_some h
  have qp42 := X11_writes_ct ep42
  refine j_cVV C dX11_image_164 vl_X11_614 CF11 rfl qp42.1 qp42.2 (by omega) rfl rfl (Nat.le_of_ble_eq_true rfl) ?_
  refine j_aload_n C dX11_image_167 rfl ?_
  refine j_getI C dX11_image_168 CF11 (by decide) fl_X11_245 rfl rfl h (fun t43 h => ?_)
  have e := Option.some.inj h
  subst e
  exact j_ri C dX11_image_171 rfl rfl rfl
theorem dX11_walling_0 : decode cX11_walling 0 = .ok (.aload_n 0, 1) := by decide +kernel
theorem dX11_walling_1 : decode cX11_walling 1 = .ok (.aload_n 0, 1) := by decide +kernel
theorem dX11_walling_2 : decode cX11_walling 2 = .ok (.getfield 69, 3) := by decide +kernel
theorem dX11_walling_5 : decode cX11_walling 5 = .ok (.aload_n 0, 1) := by decide +kernel
theorem dX11_walling_6 : decode cX11_walling 6 = .ok (.getfield 133, 3) := by decide +kernel
theorem dX11_walling_9 : decode cX11_walling 9 = .ok (.iaload, 1) := by decide +kernel
theorem dX11_walling_10 : decode cX11_walling 10 = .ok (.bipush 12, 2) := by decide +kernel
theorem dX11_walling_12 : decode cX11_walling 12 = .ok (.if_icmp .ne 7, 3) := by decide +kernel
theorem dX11_walling_15 : decode cX11_walling 15 = .ok (.iconst 1, 1) := by decide +kernel
theorem dX11_walling_16 : decode cX11_walling 16 = .ok (.goto 4, 3) := by decide +kernel
theorem dX11_walling_19 : decode cX11_walling 19 = .ok (.iconst 0, 1) := by decide +kernel
theorem dX11_walling_20 : decode cX11_walling 20 = .ok (.invokevirtual 382, 3) := by decide +kernel
theorem dX11_walling_23 : decode cX11_walling 23 = .ok (.ifCond .ne 4, 3) := by decide +kernel
theorem dX11_walling_26 : decode cX11_walling 26 = .ok (.return_, 1) := by decide +kernel
theorem dX11_walling_27 : decode cX11_walling 27 = .ok (.aload_n 0, 1) := by decide +kernel
theorem dX11_walling_28 : decode cX11_walling 28 = .ok (.iconst 1, 1) := by decide +kernel
theorem dX11_walling_29 : decode cX11_walling 29 = .ok (.invokevirtual 386, 3) := by decide +kernel
theorem dX11_walling_32 : decode cX11_walling 32 = .ok (.istore_n 1, 1) := by decide +kernel
theorem dX11_walling_33 : decode cX11_walling 33 = .ok (.aload_n 0, 1) := by decide +kernel
theorem dX11_walling_34 : decode cX11_walling 34 = .ok (.getfield 36, 3) := by decide +kernel
theorem dX11_walling_37 : decode cX11_walling 37 = .ok (.ifCond .le 4, 3) := by decide +kernel
theorem dX11_walling_40 : decode cX11_walling 40 = .ok (.return_, 1) := by decide +kernel
theorem dX11_walling_41 : decode cX11_walling 41 = .ok (.aload_n 0, 1) := by decide +kernel
theorem dX11_walling_42 : decode cX11_walling 42 = .ok (.getfield 63, 3) := by decide +kernel
theorem dX11_walling_45 : decode cX11_walling 45 = .ok (.bipush 42, 2) := by decide +kernel
theorem dX11_walling_47 : decode cX11_walling 47 = .ok (.aload_n 0, 1) := by decide +kernel
theorem dX11_walling_48 : decode cX11_walling 48 = .ok (.getfield 133, 3) := by decide +kernel
theorem dX11_walling_51 : decode cX11_walling 51 = .ok (.imul, 1) := by decide +kernel
theorem dX11_walling_52 : decode cX11_walling 52 = .ok (.iload_n 1, 1) := by decide +kernel
theorem dX11_walling_53 : decode cX11_walling 53 = .ok (.iadd, 1) := by decide +kernel
theorem dX11_walling_54 : decode cX11_walling 54 = .ok (.iconst 1, 1) := by decide +kernel
theorem dX11_walling_55 : decode cX11_walling 55 = .ok (.iastore, 1) := by decide +kernel
theorem dX11_walling_56 : decode cX11_walling 56 = .ok (.aload_n 0, 1) := by decide +kernel
theorem dX11_walling_57 : decode cX11_walling 57 = .ok (.getfield 69, 3) := by decide +kernel
theorem dX11_walling_60 : decode cX11_walling 60 = .ok (.aload_n 0, 1) := by decide +kernel
theorem dX11_walling_61 : decode cX11_walling 61 = .ok (.getfield 133, 3) := by decide +kernel
theorem dX11_walling_64 : decode cX11_walling 64 = .ok (.dup2, 1) := by decide +kernel
theorem dX11_walling_65 : decode cX11_walling 65 = .ok (.iaload, 1) := by decide +kernel
theorem dX11_walling_66 : decode cX11_walling 66 = .ok (.iconst 1, 1) := by decide +kernel
theorem dX11_walling_67 : decode cX11_walling 67 = .ok (.iadd, 1) := by decide +kernel
theorem dX11_walling_68 : decode cX11_walling 68 = .ok (.iastore, 1) := by decide +kernel
theorem dX11_walling_69 : decode cX11_walling 69 = .ok (.return_, 1) := by decide +kernel
set_option maxRecDepth 100000 in
set_option maxHeartbeats 4000000 in
theorem X11_walling_J20_ok {g : Gm} {w : Wd} (C : Cx g w RX11 cX11_walling 2 none) {lv : Nat} (hlv : 5 < lv) {N : Nat} {l0 : Nat} {s0 : Nat} {s1 : Int} {m : Mem} {out : Mem} (h : X11_walling_J20 N l0 s0 s1 m = some out) : Jd g w 2 (rmL lv 0 0) (Qm g w none out) 20 [some (vR l0), none] [vI s1, vR s0] 312 m 0 0 := by
  unfold X11_walling_J20 at h
  obtain ⟨p4, ep4, h⟩ := bind_some h
  have qp4 := X11_counts_ct ep4
  refine j_cVI C dX11_walling_20 vl_X11_382 CF11 rfl qp4.1 qp4.2 (by omega) rfl rfl (Nat.le_of_ble_eq_true rfl) ?_
  refine j_if_ne C 27 dX11_walling_23 rfl h (fun c15 h => ?_) (fun c15 h => ?_)
  · refine j_aload_n C dX11_walling_27 rfl ?_
    refine j_iconst C dX11_walling_28 rfl ?_
    obtain ⟨p5, ep5, h⟩ := bind_some h
    have qp5 := X11_cellAt_ct ep5
    refine j_cVI C dX11_walling_29 vl_X11_386 CF11 rfl qp5.1 qp5.2 (by omega) rfl rfl (Nat.le_of_ble_eq_true rfl) ?_
    refine j_istore_n (ls' := [some (vR _), some (vI _)]) C dX11_walling_32 (by decide) rfl ?_
    refine j_aload_n C dX11_walling_33 rfl ?_
    refine j_getI C dX11_walling_34 CF11 (by decide) fl_X11_36 rfl rfl h (fun t6 h => ?_)
    refine j_if_le C 41 dX11_walling_37 rfl h (fun c14 h => ?_) (fun c14 h => ?_)
    · refine j_aload_n C dX11_walling_41 rfl ?_
      refine j_getR C dX11_walling_42 CF11 (by decide) fl_X11_63 rfl rfl h (fun t7 h => ?_)
      refine j_bipush C dX11_walling_45 rfl ?_
      refine j_aload_n C dX11_walling_47 rfl ?_
      refine j_getI C dX11_walling_48 CF11 (by decide) fl_X11_133 rfl rfl h (fun t8 h => ?_)
      refine j_imul C dX11_walling_51 ?_
      refine j_iload_n C dX11_walling_52 rfl ?_
      refine j_iadd C dX11_walling_53 ?_
      refine j_iconst C dX11_walling_54 rfl ?_
      refine j_iast C dX11_walling_55 rfl h (fun m9 h => ?_)
      refine j_aload_n C dX11_walling_56 rfl ?_
      refine j_getR C dX11_walling_57 CF11 (by decide) fl_X11_69 rfl rfl h (fun t10 h => ?_)
      refine j_aload_n C dX11_walling_60 rfl ?_
      refine j_getI C dX11_walling_61 CF11 (by decide) fl_X11_133 rfl rfl h (fun t11 h => ?_)
      refine j_dup2 C dX11_walling_64 rfl rfl ?_
      refine j_iald C dX11_walling_65 rfl h (fun t12 h => ?_)
      refine j_iconst C dX11_walling_66 rfl ?_
      refine j_iadd C dX11_walling_67 ?_
      refine j_iast C dX11_walling_68 rfl h (fun m13 h => ?_)
      have e := Option.some.inj h
      subst e
      exact j_rv C dX11_walling_69 rfl rfl
    · have e := Option.some.inj h
      subst e
      exact j_rv C dX11_walling_40 rfl rfl
  · have e := Option.some.inj h
    subst e
    exact j_rv C dX11_walling_26 rfl rfl
set_option maxRecDepth 100000 in
set_option maxHeartbeats 4000000 in
theorem X11_walling_ct {N : Nat} {l0 : Nat} {m : Mem} {out : Mem} (h : X11_walling N l0 m = some out) : shK l0 = 11 + 10 ∧ CT yX11_walling cX11_walling 2 none 6 0 0 [vR l0] 312 m none 312 out := by
  unfold X11_walling at h
  obtain ⟨hK, h⟩ := ite_some h
  have hlv : 5 < 6 := by decide
  refine ⟨hK, CT.of (by decide +kernel) rfl (Nat.le_of_ble_eq_true rfl) (ls := [some (vR l0), none]) rfl fun g w C _ => ?_⟩
  refine j_aload_n C dX11_walling_0 rfl ?_
  refine j_aload_n C dX11_walling_1 rfl ?_
  refine j_getR C dX11_walling_2 CF11 (by decide) fl_X11_69 rfl rfl h (fun t1 h => ?_)
  refine j_aload_n C dX11_walling_5 rfl ?_
  refine j_getI C dX11_walling_6 CF11 (by decide) fl_X11_133 rfl rfl h (fun t2 h => ?_)
  refine j_iald C dX11_walling_9 rfl h (fun t3 h => ?_)
  refine j_bipush C dX11_walling_10 rfl ?_
  refine j_icmp_ne C 19 dX11_walling_12 rfl h (fun c16 h => ?_) (fun c16 h => ?_)
  · refine j_iconst C dX11_walling_19 rfl ?_
    exact X11_walling_J20_ok C hlv h
  · refine j_iconst C dX11_walling_15 rfl ?_
    refine j_goto C 20 dX11_walling_16 rfl ?_
    exact X11_walling_J20_ok C hlv h
theorem dX11_thinging_0 : decode cX11_thinging 0 = .ok (.aload_n 0, 1) := by decide +kernel
theorem dX11_thinging_1 : decode cX11_thinging 1 = .ok (.aload_n 0, 1) := by decide +kernel
theorem dX11_thinging_2 : decode cX11_thinging 2 = .ok (.getfield 81, 3) := by decide +kernel
theorem dX11_thinging_5 : decode cX11_thinging 5 = .ok (.aload_n 0, 1) := by decide +kernel
theorem dX11_thinging_6 : decode cX11_thinging 6 = .ok (.getfield 133, 3) := by decide +kernel
theorem dX11_thinging_9 : decode cX11_thinging 9 = .ok (.iaload, 1) := by decide +kernel
theorem dX11_thinging_10 : decode cX11_thinging 10 = .ok (.bipush 10, 2) := by decide +kernel
theorem dX11_thinging_12 : decode cX11_thinging 12 = .ok (.if_icmp .ne 7, 3) := by decide +kernel
theorem dX11_thinging_15 : decode cX11_thinging 15 = .ok (.iconst 1, 1) := by decide +kernel
theorem dX11_thinging_16 : decode cX11_thinging 16 = .ok (.goto 4, 3) := by decide +kernel
theorem dX11_thinging_19 : decode cX11_thinging 19 = .ok (.iconst 0, 1) := by decide +kernel
theorem dX11_thinging_20 : decode cX11_thinging 20 = .ok (.invokevirtual 382, 3) := by decide +kernel
theorem dX11_thinging_23 : decode cX11_thinging 23 = .ok (.ifCond .ne 4, 3) := by decide +kernel
theorem dX11_thinging_26 : decode cX11_thinging 26 = .ok (.return_, 1) := by decide +kernel
theorem dX11_thinging_27 : decode cX11_thinging 27 = .ok (.bipush 10, 2) := by decide +kernel
theorem dX11_thinging_29 : decode cX11_thinging 29 = .ok (.aload_n 0, 1) := by decide +kernel
theorem dX11_thinging_30 : decode cX11_thinging 30 = .ok (.getfield 133, 3) := by decide +kernel
theorem dX11_thinging_33 : decode cX11_thinging 33 = .ok (.imul, 1) := by decide +kernel
theorem dX11_thinging_34 : decode cX11_thinging 34 = .ok (.aload_n 0, 1) := by decide +kernel
theorem dX11_thinging_35 : decode cX11_thinging 35 = .ok (.getfield 81, 3) := by decide +kernel
theorem dX11_thinging_38 : decode cX11_thinging 38 = .ok (.aload_n 0, 1) := by decide +kernel
theorem dX11_thinging_39 : decode cX11_thinging 39 = .ok (.getfield 133, 3) := by decide +kernel
theorem dX11_thinging_42 : decode cX11_thinging 42 = .ok (.iaload, 1) := by decide +kernel
theorem dX11_thinging_43 : decode cX11_thinging 43 = .ok (.iadd, 1) := by decide +kernel
theorem dX11_thinging_44 : decode cX11_thinging 44 = .ok (.istore_n 2, 1) := by decide +kernel
theorem dX11_thinging_45 : decode cX11_thinging 45 = .ok (.aload_n 0, 1) := by decide +kernel
theorem dX11_thinging_46 : decode cX11_thinging 46 = .ok (.getfield 84, 3) := by decide +kernel
theorem dX11_thinging_49 : decode cX11_thinging 49 = .ok (.iload_n 2, 1) := by decide +kernel
theorem dX11_thinging_50 : decode cX11_thinging 50 = .ok (.iload_n 1, 1) := by decide +kernel
theorem dX11_thinging_51 : decode cX11_thinging 51 = .ok (.iastore, 1) := by decide +kernel
theorem dX11_thinging_52 : decode cX11_thinging 52 = .ok (.aload_n 0, 1) := by decide +kernel
theorem dX11_thinging_53 : decode cX11_thinging 53 = .ok (.getfield 127, 3) := by decide +kernel
theorem dX11_thinging_56 : decode cX11_thinging 56 = .ok (.iload_n 2, 1) := by decide +kernel
theorem dX11_thinging_57 : decode cX11_thinging 57 = .ok (.iload_n 1, 1) := by decide +kernel
theorem dX11_thinging_58 : decode cX11_thinging 58 = .ok (.ifCond .ne 10, 3) := by decide +kernel
theorem dX11_thinging_61 : decode cX11_thinging 61 = .ok (.aload_n 0, 1) := by decide +kernel
theorem dX11_thinging_62 : decode cX11_thinging 62 = .ok (.invokevirtual 390, 3) := by decide +kernel
theorem dX11_thinging_65 : decode cX11_thinging 65 = .ok (.goto 4, 3) := by decide +kernel
theorem dX11_thinging_68 : decode cX11_thinging 68 = .ok (.lconst 0, 1) := by decide +kernel
theorem dX11_thinging_69 : decode cX11_thinging 69 = .ok (.lastore, 1) := by decide +kernel
theorem dX11_thinging_70 : decode cX11_thinging 70 = .ok (.aload_n 0, 1) := by decide +kernel
theorem dX11_thinging_71 : decode cX11_thinging 71 = .ok (.ldc2_w 294, 3) := by decide +kernel
theorem dX11_thinging_74 : decode cX11_thinging 74 = .ok (.invokevirtual 372, 3) := by decide +kernel
theorem dX11_thinging_77 : decode cX11_thinging 77 = .ok (.aload_n 0, 1) := by decide +kernel
theorem dX11_thinging_78 : decode cX11_thinging 78 = .ok (.getfield 87, 3) := by decide +kernel
theorem dX11_thinging_81 : decode cX11_thinging 81 = .ok (.iload_n 2, 1) := by decide +kernel
theorem dX11_thinging_82 : decode cX11_thinging 82 = .ok (.aload_n 0, 1) := by decide +kernel
theorem dX11_thinging_83 : decode cX11_thinging 83 = .ok (.iconst 1, 1) := by decide +kernel
theorem dX11_thinging_84 : decode cX11_thinging 84 = .ok (.bipush 9, 2) := by decide +kernel
theorem dX11_thinging_86 : decode cX11_thinging 86 = .ok (.invokevirtual 376, 3) := by decide +kernel
theorem dX11_thinging_89 : decode cX11_thinging 89 = .ok (.iastore, 1) := by decide +kernel
theorem dX11_thinging_90 : decode cX11_thinging 90 = .ok (.aload_n 0, 1) := by decide +kernel
theorem dX11_thinging_91 : decode cX11_thinging 91 = .ok (.getfield 90, 3) := by decide +kernel
theorem dX11_thinging_94 : decode cX11_thinging 94 = .ok (.iload_n 2, 1) := by decide +kernel
theorem dX11_thinging_95 : decode cX11_thinging 95 = .ok (.aload_n 0, 1) := by decide +kernel
theorem dX11_thinging_96 : decode cX11_thinging 96 = .ok (.iconst 1, 1) := by decide +kernel
theorem dX11_thinging_97 : decode cX11_thinging 97 = .ok (.invokevirtual 386, 3) := by decide +kernel
theorem dX11_thinging_100 : decode cX11_thinging 100 = .ok (.iastore, 1) := by decide +kernel
theorem dX11_thinging_101 : decode cX11_thinging 101 = .ok (.aload_n 0, 1) := by decide +kernel
theorem dX11_thinging_102 : decode cX11_thinging 102 = .ok (.getfield 36, 3) := by decide +kernel
theorem dX11_thinging_105 : decode cX11_thinging 105 = .ok (.ifCond .ne 16, 3) := by decide +kernel
theorem dX11_thinging_108 : decode cX11_thinging 108 = .ok (.aload_n 0, 1) := by decide +kernel
theorem dX11_thinging_109 : decode cX11_thinging 109 = .ok (.getfield 81, 3) := by decide +kernel
theorem dX11_thinging_112 : decode cX11_thinging 112 = .ok (.aload_n 0, 1) := by decide +kernel
theorem dX11_thinging_113 : decode cX11_thinging 113 = .ok (.getfield 133, 3) := by decide +kernel
theorem dX11_thinging_116 : decode cX11_thinging 116 = .ok (.dup2, 1) := by decide +kernel
theorem dX11_thinging_117 : decode cX11_thinging 117 = .ok (.iaload, 1) := by decide +kernel
theorem dX11_thinging_118 : decode cX11_thinging 118 = .ok (.iconst 1, 1) := by decide +kernel
theorem dX11_thinging_119 : decode cX11_thinging 119 = .ok (.iadd, 1) := by decide +kernel
theorem dX11_thinging_120 : decode cX11_thinging 120 = .ok (.iastore, 1) := by decide +kernel
theorem dX11_thinging_121 : decode cX11_thinging 121 = .ok (.return_, 1) := by decide +kernel
set_option maxRecDepth 100000 in
set_option maxHeartbeats 4000000 in
theorem X11_thinging_J69_ok {g : Gm} {w : Wd} (C : Cx g w RX11 cX11_thinging 3 none) {lv : Nat} (hlv : 5 < lv) {N : Nat} {l0 : Nat} {l2 : Int} {s0 : Nat} {s1 : Int} {s2 : Int} {m : Mem} {out : Mem} (h : X11_thinging_J69 N l0 l2 s0 s1 s2 m = some out) : Jd g w 3 (rmL lv 0 0) (Qm g w none out) 69 [some (vR l0), none, some (vI l2)] [vL s2, vI s1, vR s0] 312 m 0 0 := by
  unfold X11_thinging_J69 at h
  refine j_last C dX11_thinging_69 rfl h (fun m12 h => ?_)
  refine j_aload_n C dX11_thinging_70 rfl ?_
  refine j_ldc2 (v := 499850634611) C dX11_thinging_71 k_X11_294 rfl rfl ?_
  obtain ⟨p13, ep13, h⟩ := bind_some h
  have qp13 := X11_must__ct ep13
  refine j_cVV C dX11_thinging_74 vl_X11_372 CF11 rfl qp13.1 qp13.2 (by omega) rfl rfl (Nat.le_of_ble_eq_true rfl) ?_
  refine j_aload_n C dX11_thinging_77 rfl ?_
  refine j_getR C dX11_thinging_78 CF11 (by decide) fl_X11_87 rfl rfl h (fun t14 h => ?_)
  refine j_iload_n C dX11_thinging_81 rfl ?_
  refine j_aload_n C dX11_thinging_82 rfl ?_
  refine j_iconst C dX11_thinging_83 rfl ?_
  refine j_bipush C dX11_thinging_84 rfl ?_
  obtain ⟨p15, ep15, h⟩ := bind_some h
  have qp15 := X11_number_ct ep15
  refine j_cVI C dX11_thinging_86 vl_X11_376 CF11 rfl qp15.1 qp15.2 (by omega) rfl rfl (Nat.le_of_ble_eq_true rfl) ?_
  refine j_iast C dX11_thinging_89 rfl h (fun m16 h => ?_)
  refine j_aload_n C dX11_thinging_90 rfl ?_
  refine j_getR C dX11_thinging_91 CF11 (by decide) fl_X11_90 rfl rfl h (fun t17 h => ?_)
  refine j_iload_n C dX11_thinging_94 rfl ?_
  refine j_aload_n C dX11_thinging_95 rfl ?_
  refine j_iconst C dX11_thinging_96 rfl ?_
  obtain ⟨p18, ep18, h⟩ := bind_some h
  have qp18 := X11_cellAt_ct ep18
  refine j_cVI C dX11_thinging_97 vl_X11_386 CF11 rfl qp18.1 qp18.2 (by omega) rfl rfl (Nat.le_of_ble_eq_true rfl) ?_
  refine j_iast C dX11_thinging_100 rfl h (fun m19 h => ?_)
  refine j_aload_n C dX11_thinging_101 rfl ?_
  refine j_getI C dX11_thinging_102 CF11 (by decide) fl_X11_36 rfl rfl h (fun t20 h => ?_)
  refine j_if_ne C 121 dX11_thinging_105 rfl h (fun c25 h => ?_) (fun c25 h => ?_)
  · have e := Option.some.inj h
    subst e
    exact j_rv C dX11_thinging_121 rfl rfl
  · refine j_aload_n C dX11_thinging_108 rfl ?_
    refine j_getR C dX11_thinging_109 CF11 (by decide) fl_X11_81 rfl rfl h (fun t21 h => ?_)
    refine j_aload_n C dX11_thinging_112 rfl ?_
    refine j_getI C dX11_thinging_113 CF11 (by decide) fl_X11_133 rfl rfl h (fun t22 h => ?_)
    refine j_dup2 C dX11_thinging_116 rfl rfl ?_
    refine j_iald C dX11_thinging_117 rfl h (fun t23 h => ?_)
    refine j_iconst C dX11_thinging_118 rfl ?_
    refine j_iadd C dX11_thinging_119 ?_
    refine j_iast C dX11_thinging_120 rfl h (fun m24 h => ?_)
    have e := Option.some.inj h
    subst e
    exact j_rv C dX11_thinging_121 rfl rfl
set_option maxRecDepth 100000 in
set_option maxHeartbeats 4000000 in
theorem X11_thinging_J20_ok {g : Gm} {w : Wd} (C : Cx g w RX11 cX11_thinging 3 none) {lv : Nat} (hlv : 5 < lv) {N : Nat} {l0 : Nat} {l1 : Int} {s0 : Nat} {s1 : Int} {m : Mem} {out : Mem} (h : X11_thinging_J20 N l0 l1 s0 s1 m = some out) : Jd g w 3 (rmL lv 0 0) (Qm g w none out) 20 [some (vR l0), some (vI l1), none] [vI s1, vR s0] 312 m 0 0 := by
  unfold X11_thinging_J20 at h
  obtain ⟨p4, ep4, h⟩ := bind_some h
  have qp4 := X11_counts_ct ep4
  refine j_cVI C dX11_thinging_20 vl_X11_382 CF11 rfl qp4.1 qp4.2 (by omega) rfl rfl (Nat.le_of_ble_eq_true rfl) ?_
  refine j_if_ne C 27 dX11_thinging_23 rfl h (fun c28 h => ?_) (fun c28 h => ?_)
  · refine j_bipush C dX11_thinging_27 rfl ?_
    refine j_aload_n C dX11_thinging_29 rfl ?_
    refine j_getI C dX11_thinging_30 CF11 (by decide) fl_X11_133 rfl rfl h (fun t5 h => ?_)
    refine j_imul C dX11_thinging_33 ?_
    refine j_aload_n C dX11_thinging_34 rfl ?_
    refine j_getR C dX11_thinging_35 CF11 (by decide) fl_X11_81 rfl rfl h (fun t6 h => ?_)
    refine j_aload_n C dX11_thinging_38 rfl ?_
    refine j_getI C dX11_thinging_39 CF11 (by decide) fl_X11_133 rfl rfl h (fun t7 h => ?_)
    refine j_iald C dX11_thinging_42 rfl h (fun t8 h => ?_)
    refine j_iadd C dX11_thinging_43 ?_
    refine j_istore_n (ls' := [some (vR _), some (vI _), some (vI _)]) C dX11_thinging_44 (by decide) rfl ?_
    refine j_aload_n C dX11_thinging_45 rfl ?_
    refine j_getR C dX11_thinging_46 CF11 (by decide) fl_X11_84 rfl rfl h (fun t9 h => ?_)
    refine j_iload_n C dX11_thinging_49 rfl ?_
    refine j_iload_n C dX11_thinging_50 rfl ?_
    refine j_iast C dX11_thinging_51 rfl h (fun m10 h => ?_)
    refine j_aload_n C dX11_thinging_52 rfl ?_
    refine j_getR C dX11_thinging_53 CF11 (by decide) fl_X11_127 rfl rfl h (fun t11 h => ?_)
    refine j_iload_n C dX11_thinging_56 rfl ?_
    refine j_iload_n C dX11_thinging_57 rfl ?_
    refine j_if_ne C 68 dX11_thinging_58 rfl h (fun c27 h => ?_) (fun c27 h => ?_)
    · refine j_lconst (v := 0) C dX11_thinging_68 rfl rfl ?_
      refine j_mask [true, false, true] (ls' := [some (vR _), none, some (vI _)]) rfl ?_
      exact X11_thinging_J69_ok C hlv h
    · refine j_aload_n C dX11_thinging_61 rfl ?_
      obtain ⟨p26, ep26, h⟩ := bind_some h
      have qp26 := X11_fresh_ct ep26
      refine j_cVL C dX11_thinging_62 vl_X11_390 CF11 rfl qp26.1 qp26.2 (by omega) rfl rfl (Nat.le_of_ble_eq_true rfl) ?_
      refine j_goto C 69 dX11_thinging_65 rfl ?_
      refine j_mask [true, false, true] (ls' := [some (vR _), none, some (vI _)]) rfl ?_
      exact X11_thinging_J69_ok C hlv h
  · have e := Option.some.inj h
    subst e
    exact j_rv C dX11_thinging_26 rfl rfl
set_option maxRecDepth 100000 in
set_option maxHeartbeats 4000000 in
theorem X11_thinging_ct {N : Nat} {l0 : Nat} {l1 : Int} {m : Mem} {out : Mem} (h : X11_thinging N l0 l1 m = some out) : shK l0 = 11 + 10 ∧ CT yX11_thinging cX11_thinging 3 none 6 0 0 [vR l0, vI l1] 312 m none 312 out := by
  unfold X11_thinging at h
  obtain ⟨hK, h⟩ := ite_some h
  have hlv : 5 < 6 := by decide
  refine ⟨hK, CT.of (by decide +kernel) rfl (Nat.le_of_ble_eq_true rfl) (ls := [some (vR l0), some (vI l1), none]) rfl fun g w C _ => ?_⟩
  refine j_aload_n C dX11_thinging_0 rfl ?_
  refine j_aload_n C dX11_thinging_1 rfl ?_
  refine j_getR C dX11_thinging_2 CF11 (by decide) fl_X11_81 rfl rfl h (fun t1 h => ?_)
  refine j_aload_n C dX11_thinging_5 rfl ?_
  refine j_getI C dX11_thinging_6 CF11 (by decide) fl_X11_133 rfl rfl h (fun t2 h => ?_)
  refine j_iald C dX11_thinging_9 rfl h (fun t3 h => ?_)
  refine j_bipush C dX11_thinging_10 rfl ?_
  refine j_icmp_ne C 19 dX11_thinging_12 rfl h (fun c29 h => ?_) (fun c29 h => ?_)
  · refine j_iconst C dX11_thinging_19 rfl ?_
    exact X11_thinging_J20_ok C hlv h
  · refine j_iconst C dX11_thinging_15 rfl ?_
    refine j_goto C 20 dX11_thinging_16 rfl ?_
    exact X11_thinging_J20_ok C hlv h
theorem dX11_skyOf_0 : decode cX11_skyOf 0 = .ok (.iload_n 0, 1) := by decide +kernel
theorem dX11_skyOf_1 : decode cX11_skyOf 1 = .ok (.bipush 99, 2) := by decide +kernel
theorem dX11_skyOf_3 : decode cX11_skyOf 3 = .ok (.if_icmp .ne 7, 3) := by decide +kernel
theorem dX11_skyOf_6 : decode cX11_skyOf 6 = .ok (.iconst 0, 1) := by decide +kernel
theorem dX11_skyOf_7 : decode cX11_skyOf 7 = .ok (.goto 34, 3) := by decide +kernel
theorem dX11_skyOf_10 : decode cX11_skyOf 10 = .ok (.iload_n 0, 1) := by decide +kernel
theorem dX11_skyOf_11 : decode cX11_skyOf 11 = .ok (.bipush 111, 2) := by decide +kernel
theorem dX11_skyOf_13 : decode cX11_skyOf 13 = .ok (.if_icmp .ne 7, 3) := by decide +kernel
theorem dX11_skyOf_16 : decode cX11_skyOf 16 = .ok (.iconst 1, 1) := by decide +kernel
theorem dX11_skyOf_17 : decode cX11_skyOf 17 = .ok (.goto 24, 3) := by decide +kernel
theorem dX11_skyOf_20 : decode cX11_skyOf 20 = .ok (.iload_n 0, 1) := by decide +kernel
theorem dX11_skyOf_21 : decode cX11_skyOf 21 = .ok (.bipush 119, 2) := by decide +kernel
theorem dX11_skyOf_23 : decode cX11_skyOf 23 = .ok (.if_icmp .ne 7, 3) := by decide +kernel
theorem dX11_skyOf_26 : decode cX11_skyOf 26 = .ok (.iconst 2, 1) := by decide +kernel
theorem dX11_skyOf_27 : decode cX11_skyOf 27 = .ok (.goto 14, 3) := by decide +kernel
theorem dX11_skyOf_30 : decode cX11_skyOf 30 = .ok (.iload_n 0, 1) := by decide +kernel
theorem dX11_skyOf_31 : decode cX11_skyOf 31 = .ok (.bipush 115, 2) := by decide +kernel
theorem dX11_skyOf_33 : decode cX11_skyOf 33 = .ok (.if_icmp .ne 7, 3) := by decide +kernel
theorem dX11_skyOf_36 : decode cX11_skyOf 36 = .ok (.iconst 3, 1) := by decide +kernel
theorem dX11_skyOf_37 : decode cX11_skyOf 37 = .ok (.goto 4, 3) := by decide +kernel
theorem dX11_skyOf_40 : decode cX11_skyOf 40 = .ok (.iconst (-1), 1) := by decide +kernel
theorem dX11_skyOf_41 : decode cX11_skyOf 41 = .ok (.ireturn, 1) := by decide +kernel
set_option maxRecDepth 100000 in
set_option maxHeartbeats 4000000 in
theorem X11_skyOf_ct {l0 : Int} {m : Mem} {out : Int} (h : X11_skyOf l0 m = some out) : CT yX11_skyOf cX11_skyOf 1 (some .int) 1 0 0 [vI l0] 312 m (some (vI out)) 312 m := by
  unfold X11_skyOf at h
  have hlv : 0 < 1 := by decide
  refine CT.of (by decide +kernel) rfl (Nat.le_of_ble_eq_true rfl) (ls := [some (vI l0)]) rfl fun g w C _ => ?_
  refine j_iload_n C dX11_skyOf_0 rfl ?_
  refine j_bipush C dX11_skyOf_1 rfl ?_
  refine j_icmp_ne C 10 dX11_skyOf_3 rfl h (fun c4 h => ?_) (fun c4 h => ?_)
  · refine j_iload_n C dX11_skyOf_10 rfl ?_
    refine j_bipush C dX11_skyOf_11 rfl ?_
    refine j_icmp_ne C 20 dX11_skyOf_13 rfl h (fun c3 h => ?_) (fun c3 h => ?_)
    · refine j_iload_n C dX11_skyOf_20 rfl ?_
      refine j_bipush C dX11_skyOf_21 rfl ?_
      refine j_icmp_ne C 30 dX11_skyOf_23 rfl h (fun c2 h => ?_) (fun c2 h => ?_)
      · refine j_iload_n C dX11_skyOf_30 rfl ?_
        refine j_bipush C dX11_skyOf_31 rfl ?_
        refine j_icmp_ne C 40 dX11_skyOf_33 rfl h (fun c1 h => ?_) (fun c1 h => ?_)
        · refine j_iconst C dX11_skyOf_40 rfl ?_
          exact j_ri C dX11_skyOf_41 rfl (Option.some.inj h).symm rfl
        · refine j_iconst C dX11_skyOf_36 rfl ?_
          refine j_goto C 41 dX11_skyOf_37 rfl ?_
          exact j_ri C dX11_skyOf_41 rfl (Option.some.inj h).symm rfl
      · refine j_iconst C dX11_skyOf_26 rfl ?_
        refine j_goto C 41 dX11_skyOf_27 rfl ?_
        exact j_ri C dX11_skyOf_41 rfl (Option.some.inj h).symm rfl
    · refine j_iconst C dX11_skyOf_16 rfl ?_
      refine j_goto C 41 dX11_skyOf_17 rfl ?_
      exact j_ri C dX11_skyOf_41 rfl (Option.some.inj h).symm rfl
  · refine j_iconst C dX11_skyOf_6 rfl ?_
    refine j_goto C 41 dX11_skyOf_7 rfl ?_
    exact j_ri C dX11_skyOf_41 rfl (Option.some.inj h).symm rfl
theorem dX11_skying_0 : decode cX11_skying 0 = .ok (.aload_n 0, 1) := by decide +kernel
theorem dX11_skying_1 : decode cX11_skying 1 = .ok (.iconst 0, 1) := by decide +kernel
theorem dX11_skying_2 : decode cX11_skying 2 = .ok (.invokevirtual 382, 3) := by decide +kernel
theorem dX11_skying_5 : decode cX11_skying 5 = .ok (.ifCond .ne 4, 3) := by decide +kernel
theorem dX11_skying_8 : decode cX11_skying 8 = .ok (.return_, 1) := by decide +kernel
theorem dX11_skying_9 : decode cX11_skying 9 = .ok (.aload_n 0, 1) := by decide +kernel
theorem dX11_skying_10 : decode cX11_skying 10 = .ok (.getfield 20, 3) := by decide +kernel
theorem dX11_skying_13 : decode cX11_skying 13 = .ok (.iconst 1, 1) := by decide +kernel
theorem dX11_skying_14 : decode cX11_skying 14 = .ok (.if_icmp .ne 36, 3) := by decide +kernel
theorem dX11_skying_17 : decode cX11_skying 17 = .ok (.aload_n 0, 1) := by decide +kernel
theorem dX11_skying_18 : decode cX11_skying 18 = .ok (.getfield 26, 3) := by decide +kernel
theorem dX11_skying_21 : decode cX11_skying 21 = .ok (.aload_n 0, 1) := by decide +kernel
theorem dX11_skying_22 : decode cX11_skying 22 = .ok (.getfield 23, 3) := by decide +kernel
theorem dX11_skying_25 : decode cX11_skying 25 = .ok (.isub, 1) := by decide +kernel
theorem dX11_skying_26 : decode cX11_skying 26 = .ok (.iconst 1, 1) := by decide +kernel
theorem dX11_skying_27 : decode cX11_skying 27 = .ok (.bipush 12, 2) := by decide +kernel
theorem dX11_skying_29 : decode cX11_skying 29 = .ok (.invokestatic 334, 3) := by decide +kernel
theorem dX11_skying_32 : decode cX11_skying 32 = .ok (.ifCond .eq 18, 3) := by decide +kernel
theorem dX11_skying_35 : decode cX11_skying 35 = .ok (.aload_n 0, 1) := by decide +kernel
theorem dX11_skying_36 : decode cX11_skying 36 = .ok (.getfield 48, 3) := by decide +kernel
theorem dX11_skying_39 : decode cX11_skying 39 = .ok (.aload_n 0, 1) := by decide +kernel
theorem dX11_skying_40 : decode cX11_skying 40 = .ok (.getfield 23, 3) := by decide +kernel
theorem dX11_skying_43 : decode cX11_skying 43 = .ok (.if_icmp .eq 7, 3) := by decide +kernel
theorem dX11_skying_46 : decode cX11_skying 46 = .ok (.iconst 1, 1) := by decide +kernel
theorem dX11_skying_47 : decode cX11_skying 47 = .ok (.goto 4, 3) := by decide +kernel
theorem dX11_skying_50 : decode cX11_skying 50 = .ok (.iconst 0, 1) := by decide +kernel
theorem dX11_skying_51 : decode cX11_skying 51 = .ok (.istore_n 1, 1) := by decide +kernel
theorem dX11_skying_52 : decode cX11_skying 52 = .ok (.aload_n 0, 1) := by decide +kernel
theorem dX11_skying_53 : decode cX11_skying 53 = .ok (.getfield 23, 3) := by decide +kernel
theorem dX11_skying_56 : decode cX11_skying 56 = .ok (.istore_n 2, 1) := by decide +kernel
theorem dX11_skying_57 : decode cX11_skying 57 = .ok (.iload_n 2, 1) := by decide +kernel
theorem dX11_skying_58 : decode cX11_skying 58 = .ok (.aload_n 0, 1) := by decide +kernel
theorem dX11_skying_59 : decode cX11_skying 59 = .ok (.getfield 26, 3) := by decide +kernel
theorem dX11_skying_62 : decode cX11_skying 62 = .ok (.if_icmp .ge 32, 3) := by decide +kernel
theorem dX11_skying_65 : decode cX11_skying 65 = .ok (.iload_n 1, 1) := by decide +kernel
theorem dX11_skying_66 : decode cX11_skying 66 = .ok (.ifCond .eq 28, 3) := by decide +kernel
theorem dX11_skying_69 : decode cX11_skying 69 = .ok (.aload_n 0, 1) := by decide +kernel
theorem dX11_skying_70 : decode cX11_skying 70 = .ok (.getfield 7, 3) := by decide +kernel
theorem dX11_skying_73 : decode cX11_skying 73 = .ok (.iload_n 2, 1) := by decide +kernel
theorem dX11_skying_74 : decode cX11_skying 74 = .ok (.iaload, 1) := by decide +kernel
theorem dX11_skying_75 : decode cX11_skying 75 = .ok (.invokestatic 394, 3) := by decide +kernel
theorem dX11_skying_78 : decode cX11_skying 78 = .ok (.iconst (-1), 1) := by decide +kernel
theorem dX11_skying_79 : decode cX11_skying 79 = .ok (.if_icmp .eq 7, 3) := by decide +kernel
theorem dX11_skying_82 : decode cX11_skying 82 = .ok (.iconst 1, 1) := by decide +kernel
theorem dX11_skying_83 : decode cX11_skying 83 = .ok (.goto 4, 3) := by decide +kernel
theorem dX11_skying_86 : decode cX11_skying 86 = .ok (.iconst 0, 1) := by decide +kernel
theorem dX11_skying_87 : decode cX11_skying 87 = .ok (.istore_n 1, 1) := by decide +kernel
theorem dX11_skying_88 : decode cX11_skying 88 = .ok (.iinc 2 1, 3) := by decide +kernel
theorem dX11_skying_91 : decode cX11_skying 91 = .ok (.goto (-34), 3) := by decide +kernel
theorem dX11_skying_94 : decode cX11_skying 94 = .ok (.iload_n 1, 1) := by decide +kernel
theorem dX11_skying_95 : decode cX11_skying 95 = .ok (.ifCond .ne 12, 3) := by decide +kernel
theorem dX11_skying_98 : decode cX11_skying 98 = .ok (.aload_n 0, 1) := by decide +kernel
theorem dX11_skying_99 : decode cX11_skying 99 = .ok (.iconst 1, 1) := by decide +kernel
theorem dX11_skying_100 : decode cX11_skying 100 = .ok (.aload_n 0, 1) := by decide +kernel
theorem dX11_skying_101 : decode cX11_skying 101 = .ok (.getfield 23, 3) := by decide +kernel
theorem dX11_skying_104 : decode cX11_skying 104 = .ok (.invokevirtual 256, 3) := by decide +kernel
theorem dX11_skying_107 : decode cX11_skying 107 = .ok (.aload_n 0, 1) := by decide +kernel
theorem dX11_skying_108 : decode cX11_skying 108 = .ok (.getfield 36, 3) := by decide +kernel
theorem dX11_skying_111 : decode cX11_skying 111 = .ok (.ifCond .le 4, 3) := by decide +kernel
theorem dX11_skying_114 : decode cX11_skying 114 = .ok (.return_, 1) := by decide +kernel
theorem dX11_skying_115 : decode cX11_skying 115 = .ok (.iconst 0, 1) := by decide +kernel
theorem dX11_skying_116 : decode cX11_skying 116 = .ok (.istore_n 2, 1) := by decide +kernel
theorem dX11_skying_117 : decode cX11_skying 117 = .ok (.iload_n 2, 1) := by decide +kernel
theorem dX11_skying_118 : decode cX11_skying 118 = .ok (.bipush 12, 2) := by decide +kernel
theorem dX11_skying_120 : decode cX11_skying 120 = .ok (.if_icmp .ge 54, 3) := by decide +kernel
theorem dX11_skying_123 : decode cX11_skying 123 = .ok (.aload_n 0, 1) := by decide +kernel
theorem dX11_skying_124 : decode cX11_skying 124 = .ok (.getfield 93, 3) := by decide +kernel
theorem dX11_skying_127 : decode cX11_skying 127 = .ok (.bipush 12, 2) := by decide +kernel
theorem dX11_skying_129 : decode cX11_skying 129 = .ok (.aload_n 0, 1) := by decide +kernel
theorem dX11_skying_130 : decode cX11_skying 130 = .ok (.getfield 133, 3) := by decide +kernel
theorem dX11_skying_133 : decode cX11_skying 133 = .ok (.imul, 1) := by decide +kernel
theorem dX11_skying_134 : decode cX11_skying 134 = .ok (.iload_n 2, 1) := by decide +kernel
theorem dX11_skying_135 : decode cX11_skying 135 = .ok (.iadd, 1) := by decide +kernel
theorem dX11_skying_136 : decode cX11_skying 136 = .ok (.aload_n 0, 1) := by decide +kernel
theorem dX11_skying_137 : decode cX11_skying 137 = .ok (.getfield 23, 3) := by decide +kernel
theorem dX11_skying_140 : decode cX11_skying 140 = .ok (.iload_n 2, 1) := by decide +kernel
theorem dX11_skying_141 : decode cX11_skying 141 = .ok (.iadd, 1) := by decide +kernel
theorem dX11_skying_142 : decode cX11_skying 142 = .ok (.aload_n 0, 1) := by decide +kernel
theorem dX11_skying_143 : decode cX11_skying 143 = .ok (.getfield 26, 3) := by decide +kernel
theorem dX11_skying_146 : decode cX11_skying 146 = .ok (.if_icmp .ge 20, 3) := by decide +kernel
theorem dX11_skying_149 : decode cX11_skying 149 = .ok (.aload_n 0, 1) := by decide +kernel
theorem dX11_skying_150 : decode cX11_skying 150 = .ok (.getfield 7, 3) := by decide +kernel
theorem dX11_skying_153 : decode cX11_skying 153 = .ok (.aload_n 0, 1) := by decide +kernel
theorem dX11_skying_154 : decode cX11_skying 154 = .ok (.getfield 23, 3) := by decide +kernel
theorem dX11_skying_157 : decode cX11_skying 157 = .ok (.iload_n 2, 1) := by decide +kernel
theorem dX11_skying_158 : decode cX11_skying 158 = .ok (.iadd, 1) := by decide +kernel
theorem dX11_skying_159 : decode cX11_skying 159 = .ok (.iaload, 1) := by decide +kernel
theorem dX11_skying_160 : decode cX11_skying 160 = .ok (.invokestatic 394, 3) := by decide +kernel
theorem dX11_skying_163 : decode cX11_skying 163 = .ok (.goto 4, 3) := by decide +kernel
theorem dX11_skying_166 : decode cX11_skying 166 = .ok (.iconst 0, 1) := by decide +kernel
theorem dX11_skying_167 : decode cX11_skying 167 = .ok (.iastore, 1) := by decide +kernel
theorem dX11_skying_168 : decode cX11_skying 168 = .ok (.iinc 2 1, 3) := by decide +kernel
theorem dX11_skying_171 : decode cX11_skying 171 = .ok (.goto (-54), 3) := by decide +kernel
theorem dX11_skying_174 : decode cX11_skying 174 = .ok (.aload_n 0, 1) := by decide +kernel
theorem dX11_skying_175 : decode cX11_skying 175 = .ok (.invokevirtual 277, 3) := by decide +kernel
theorem dX11_skying_178 : decode cX11_skying 178 = .ok (.return_, 1) := by decide +kernel
set_option maxRecDepth 100000 in
set_option maxHeartbeats 4000000 in
theorem X11_skying_J87_ok {g : Gm} {w : Wd} (C : Cx g w RX11 cX11_skying 3 none) {lv : Nat} (hlv : 3 < lv) {N : Nat} {r57 : Nat → Int → Int → Mem → Option Mem } {l0 : Nat} {l2 : Int} {s0 : Int} {m : Mem} {out : Mem} (hr57 : ∀ l0 l1 l2 m, r57 l0 l1 l2 m = some out → Jd g w 3 (rmL lv 0 0) (Qm g w none out) 57 [some (vR l0), some (vI l1), some (vI l2)] [] 312 m 0 0) (h : X11_skying_J87 N r57 l0 l2 s0 m = some out) : Jd g w 3 (rmL lv 0 0) (Qm g w none out) 87 [some (vR l0), none, some (vI l2)] [vI s0] 312 m 0 0 := by
  unfold X11_skying_J87 at h
  refine j_istore_n (ls' := [some (vR _), some (vI _), some (vI _)]) C dX11_skying_87 (by decide) rfl ?_
  refine j_iinc (ls' := [some (vR _), some (vI _), some (vI _)]) C dX11_skying_88 rfl (by decide) rfl ?_
  refine j_goto C 57 dX11_skying_91 rfl ?_
  exact hr57 _ _ _ _ h
set_option maxRecDepth 100000 in
set_option maxHeartbeats 4000000 in
theorem X11_skying_L57_bok {g : Gm} {w : Wd} (C : Cx g w RX11 cX11_skying 3 none) {lv : Nat} (hlv : 3 < lv) {N : Nat} {k94 : Nat → Int → Mem → Option Mem} {r57 : Nat → Int → Int → Mem → Option Mem} {l0 : Nat} {l1 : Int} {l2 : Int} {m : Mem} {out : Mem} (hk94 : ∀ l0 l1 m, k94 l0 l1 m = some out → Jd g w 3 (rmL lv 0 0) (Qm g w none out) 94 [some (vR l0), some (vI l1), none] [] 312 m 0 0) (hr57 : ∀ l0 l1 l2 m, r57 l0 l1 l2 m = some out → Jd g w 3 (rmL lv 0 0) (Qm g w none out) 57 [some (vR l0), some (vI l1), some (vI l2)] [] 312 m 0 0) (h : X11_skying_L57_b N k94 r57 l0 l1 l2 m = some out) : Jd g w 3 (rmL lv 0 0) (Qm g w none out) 57 [some (vR l0), some (vI l1), some (vI l2)] [] 312 m 0 0 := by
  unfold X11_skying_L57_b at h
  refine j_iload_n C dX11_skying_57 rfl ?_
  refine j_aload_n C dX11_skying_58 rfl ?_
  refine j_getI C dX11_skying_59 CF11 (by decide) fl_X11_26 rfl rfl h (fun t4 h => ?_)
  refine j_icmp_ge C 94 dX11_skying_62 rfl h (fun c10 h => ?_) (fun c10 h => ?_)
  · refine j_mask [true, true, false] (ls' := [some (vR _), some (vI _), none]) rfl ?_
    exact hk94 _ _ _ h
  · refine j_iload_n C dX11_skying_65 rfl ?_
    refine j_if_eq C 94 dX11_skying_66 rfl h (fun c9 h => ?_) (fun c9 h => ?_)
    · refine j_mask [true, true, false] (ls' := [some (vR _), some (vI _), none]) rfl ?_
      exact hk94 _ _ _ h
    · refine j_aload_n C dX11_skying_69 rfl ?_
      refine j_getR C dX11_skying_70 CF11 (by decide) fl_X11_7 rfl rfl h (fun t5 h => ?_)
      refine j_iload_n C dX11_skying_73 rfl ?_
      refine j_iald C dX11_skying_74 rfl h (fun t6 h => ?_)
      obtain ⟨p7, ep7, h⟩ := bind_some h
      have qp7 := X11_skyOf_ct ep7
      refine j_cSI C dX11_skying_75 sl_X11_394 qp7 (by omega) rfl rfl (Nat.le_of_ble_eq_true rfl) ?_
      refine j_iconst C dX11_skying_78 rfl ?_
      refine j_icmp_eq C 86 dX11_skying_79 rfl h (fun c8 h => ?_) (fun c8 h => ?_)
      · refine j_iconst C dX11_skying_86 rfl ?_
        refine j_mask [true, false, true] (ls' := [some (vR _), none, some (vI _)]) rfl ?_
        exact X11_skying_J87_ok C hlv hr57 h
      · refine j_iconst C dX11_skying_82 rfl ?_
        refine j_goto C 87 dX11_skying_83 rfl ?_
        refine j_mask [true, false, true] (ls' := [some (vR _), none, some (vI _)]) rfl ?_
        exact X11_skying_J87_ok C hlv hr57 h
set_option maxRecDepth 100000 in
set_option maxHeartbeats 4000000 in
theorem X11_skying_L57_ok {g : Gm} {w : Wd} (C : Cx g w RX11 cX11_skying 3 none) {lv : Nat} (hlv : 3 < lv) {N : Nat} {k94 : Nat → Int → Mem → Option Mem} {out : Mem} (hk94 : ∀ l0 l1 m, k94 l0 l1 m = some out → Jd g w 3 (rmL lv 0 0) (Qm g w none out) 94 [some (vR l0), some (vI l1), none] [] 312 m 0 0) (f : Nat) : ∀ {l0 : Nat} {l1 : Int} {l2 : Int} {m : Mem}, X11_skying_L57 N k94 f l0 l1 l2 m = some out → Jd g w 3 (rmL lv 0 0) (Qm g w none out) 57 [some (vR l0), some (vI l1), some (vI l2)] [] 312 m 0 0 := by
  induction f with
  | zero => intro l0 l1 l2 m h; exact none_ne (α := Mem) h
  | succ f ih => intro l0 l1 l2 m h; exact X11_skying_L57_bok C hlv hk94 (fun l0 l1 l2 m h => ih h) h
set_option maxRecDepth 100000 in
set_option maxHeartbeats 4000000 in
theorem X11_skying_J167_ok {g : Gm} {w : Wd} (C : Cx g w RX11 cX11_skying 3 none) {lv : Nat} (hlv : 3 < lv) {N : Nat} {r117 : Nat → Int → Mem → Option Mem } {l0 : Nat} {l2 : Int} {s0 : Nat} {s1 : Int} {s2 : Int} {m : Mem} {out : Mem} (hr117 : ∀ l0 l2 m, r117 l0 l2 m = some out → Jd g w 3 (rmL lv 0 0) (Qm g w none out) 117 [some (vR l0), none, some (vI l2)] [] 312 m 0 0) (h : X11_skying_J167 N r117 l0 l2 s0 s1 s2 m = some out) : Jd g w 3 (rmL lv 0 0) (Qm g w none out) 167 [some (vR l0), none, some (vI l2)] [vI s2, vI s1, vR s0] 312 m 0 0 := by
  unfold X11_skying_J167 at h
  refine j_iast C dX11_skying_167 rfl h (fun m19 h => ?_)
  refine j_iinc (ls' := [some (vR _), none, some (vI _)]) C dX11_skying_168 rfl (by decide) rfl ?_
  refine j_goto C 117 dX11_skying_171 rfl ?_
  exact hr117 _ _ _ h
set_option maxRecDepth 100000 in
set_option maxHeartbeats 4000000 in
theorem X11_skying_L117_bok {g : Gm} {w : Wd} (C : Cx g w RX11 cX11_skying 3 none) {lv : Nat} (hlv : 3 < lv) {N : Nat} {k174 : Nat → Mem → Option Mem} {r117 : Nat → Int → Mem → Option Mem} {l0 : Nat} {l2 : Int} {m : Mem} {out : Mem} (hk174 : ∀ l0 m, k174 l0 m = some out → Jd g w 3 (rmL lv 0 0) (Qm g w none out) 174 [some (vR l0), none, none] [] 312 m 0 0) (hr117 : ∀ l0 l2 m, r117 l0 l2 m = some out → Jd g w 3 (rmL lv 0 0) (Qm g w none out) 117 [some (vR l0), none, some (vI l2)] [] 312 m 0 0) (h : X11_skying_L117_b N k174 r117 l0 l2 m = some out) : Jd g w 3 (rmL lv 0 0) (Qm g w none out) 117 [some (vR l0), none, some (vI l2)] [] 312 m 0 0 := by
  unfold X11_skying_L117_b at h
  refine j_iload_n C dX11_skying_117 rfl ?_
  refine j_bipush C dX11_skying_118 rfl ?_
  refine j_icmp_ge C 174 dX11_skying_120 rfl h (fun c25 h => ?_) (fun c25 h => ?_)
  · refine j_mask [true, false, false] (ls' := [some (vR _), none, none]) rfl ?_
    exact hk174 _ _ h
  · refine j_aload_n C dX11_skying_123 rfl ?_
    refine j_getR C dX11_skying_124 CF11 (by decide) fl_X11_93 rfl rfl h (fun t15 h => ?_)
    refine j_bipush C dX11_skying_127 rfl ?_
    refine j_aload_n C dX11_skying_129 rfl ?_
    refine j_getI C dX11_skying_130 CF11 (by decide) fl_X11_133 rfl rfl h (fun t16 h => ?_)
    refine j_imul C dX11_skying_133 ?_
    refine j_iload_n C dX11_skying_134 rfl ?_
    refine j_iadd C dX11_skying_135 ?_
    refine j_aload_n C dX11_skying_136 rfl ?_
    refine j_getI C dX11_skying_137 CF11 (by decide) fl_X11_23 rfl rfl h (fun t17 h => ?_)
    refine j_iload_n C dX11_skying_140 rfl ?_
    refine j_iadd C dX11_skying_141 ?_
    refine j_aload_n C dX11_skying_142 rfl ?_
    refine j_getI C dX11_skying_143 CF11 (by decide) fl_X11_26 rfl rfl h (fun t18 h => ?_)
    refine j_icmp_ge C 166 dX11_skying_146 rfl h (fun c24 h => ?_) (fun c24 h => ?_)
    · refine j_iconst C dX11_skying_166 rfl ?_
      exact X11_skying_J167_ok C hlv hr117 h
    · refine j_aload_n C dX11_skying_149 rfl ?_
      refine j_getR C dX11_skying_150 CF11 (by decide) fl_X11_7 rfl rfl h (fun t20 h => ?_)
      refine j_aload_n C dX11_skying_153 rfl ?_
      refine j_getI C dX11_skying_154 CF11 (by decide) fl_X11_23 rfl rfl h (fun t21 h => ?_)
      refine j_iload_n C dX11_skying_157 rfl ?_
      refine j_iadd C dX11_skying_158 ?_
      refine j_iald C dX11_skying_159 rfl h (fun t22 h => ?_)
      obtain ⟨p23, ep23, h⟩ := bind_some h
      have qp23 := X11_skyOf_ct ep23
      refine j_cSI C dX11_skying_160 sl_X11_394 qp23 (by omega) rfl rfl (Nat.le_of_ble_eq_true rfl) ?_
      refine j_goto C 167 dX11_skying_163 rfl ?_
      exact X11_skying_J167_ok C hlv hr117 h
set_option maxRecDepth 100000 in
set_option maxHeartbeats 4000000 in
theorem X11_skying_L117_ok {g : Gm} {w : Wd} (C : Cx g w RX11 cX11_skying 3 none) {lv : Nat} (hlv : 3 < lv) {N : Nat} {k174 : Nat → Mem → Option Mem} {out : Mem} (hk174 : ∀ l0 m, k174 l0 m = some out → Jd g w 3 (rmL lv 0 0) (Qm g w none out) 174 [some (vR l0), none, none] [] 312 m 0 0) (f : Nat) : ∀ {l0 : Nat} {l2 : Int} {m : Mem}, X11_skying_L117 N k174 f l0 l2 m = some out → Jd g w 3 (rmL lv 0 0) (Qm g w none out) 117 [some (vR l0), none, some (vI l2)] [] 312 m 0 0 := by
  induction f with
  | zero => intro l0 l2 m h; exact none_ne (α := Mem) h
  | succ f ih => intro l0 l2 m h; exact X11_skying_L117_bok C hlv hk174 (fun l0 l2 m h => ih h) h
set_option maxRecDepth 100000 in
set_option maxHeartbeats 4000000 in
theorem X11_skying_J107_ok {g : Gm} {w : Wd} (C : Cx g w RX11 cX11_skying 3 none) {lv : Nat} (hlv : 3 < lv) {N : Nat} {l0 : Nat} {m : Mem} {out : Mem} (h : X11_skying_J107 N l0 m = some out) : Jd g w 3 (rmL lv 0 0) (Qm g w none out) 107 [some (vR l0), none, none] [] 312 m 0 0 := by
  unfold X11_skying_J107 at h
  refine j_aload_n C dX11_skying_107 rfl ?_
  refine j_getI C dX11_skying_108 CF11 (by decide) fl_X11_36 rfl rfl h (fun t14 h => ?_)
  refine j_if_le C 115 dX11_skying_111 rfl h (fun c29 h => ?_) (fun c29 h => ?_)
  · refine j_iconst C dX11_skying_115 rfl ?_
    refine j_istore_n (ls' := [some (vR _), none, some (vI _)]) C dX11_skying_116 (by decide) rfl ?_
    refine X11_skying_L117_ok C hlv (fun z26 m27 h => ?_) N h
    refine j_aload_n C dX11_skying_174 rfl ?_
    obtain ⟨p28, ep28, h⟩ := bind_some h
    have qp28 := X11_ahead_ct ep28
    refine j_cVV C dX11_skying_175 vl_X11_277 CF11 rfl qp28.1 qp28.2 (by omega) rfl rfl (Nat.le_of_ble_eq_true rfl) ?_
    have e := Option.some.inj h
    subst e
    exact j_rv C dX11_skying_178 rfl rfl
  · have e := Option.some.inj h
    subst e
    exact j_rv C dX11_skying_114 rfl rfl
set_option maxRecDepth 100000 in
set_option maxHeartbeats 4000000 in
theorem X11_skying_J51_ok {g : Gm} {w : Wd} (C : Cx g w RX11 cX11_skying 3 none) {lv : Nat} (hlv : 3 < lv) {N : Nat} {l0 : Nat} {s0 : Int} {m : Mem} {out : Mem} (h : X11_skying_J51 N l0 s0 m = some out) : Jd g w 3 (rmL lv 0 0) (Qm g w none out) 51 [some (vR l0), none, none] [vI s0] 312 m 0 0 := by
  unfold X11_skying_J51 at h
  refine j_istore_n (ls' := [some (vR _), some (vI _), none]) C dX11_skying_51 (by decide) rfl ?_
  refine j_aload_n C dX11_skying_52 rfl ?_
  refine j_getI C dX11_skying_53 CF11 (by decide) fl_X11_23 rfl rfl h (fun t3 h => ?_)
  refine j_istore_n (ls' := [some (vR _), some (vI _), some (vI _)]) C dX11_skying_56 (by decide) rfl ?_
  refine X11_skying_L57_ok C hlv (fun z11 z12 m13 h => ?_) N h
  refine j_iload_n C dX11_skying_94 rfl ?_
  refine j_if_ne C 107 dX11_skying_95 rfl h (fun c32 h => ?_) (fun c32 h => ?_)
  · refine j_mask [true, false, false] (ls' := [some (vR _), none, none]) rfl ?_
    exact X11_skying_J107_ok C hlv h
  · refine j_aload_n C dX11_skying_98 rfl ?_
    refine j_iconst C dX11_skying_99 rfl ?_
    refine j_aload_n C dX11_skying_100 rfl ?_
    refine j_getI C dX11_skying_101 CF11 (by decide) fl_X11_23 rfl rfl h (fun t30 h => ?_)
    obtain ⟨p31, ep31, h⟩ := bind_some h
    have qp31 := X11_blame_ct ep31
    refine j_cVV C dX11_skying_104 vl_X11_256 CF11 rfl qp31.1 qp31.2 (by omega) rfl rfl (Nat.le_of_ble_eq_true rfl) ?_
    refine j_mask [true, false, false] (ls' := [some (vR _), none, none]) rfl ?_
    exact X11_skying_J107_ok C hlv h
set_option maxRecDepth 100000 in
set_option maxHeartbeats 4000000 in
theorem X11_skying_J50_ok {g : Gm} {w : Wd} (C : Cx g w RX11 cX11_skying 3 none) {lv : Nat} (hlv : 3 < lv) {N : Nat} {l0 : Nat} {m : Mem} {out : Mem} (h : X11_skying_J50 N l0 m = some out) : Jd g w 3 (rmL lv 0 0) (Qm g w none out) 50 [some (vR l0), none, none] [] 312 m 0 0 := by
  unfold X11_skying_J50 at h
  refine j_iconst C dX11_skying_50 rfl ?_
  exact X11_skying_J51_ok C hlv h
set_option maxRecDepth 100000 in
set_option maxHeartbeats 4000000 in
theorem X11_skying_ct {N : Nat} {l0 : Nat} {m : Mem} {out : Mem} (h : X11_skying N l0 m = some out) : shK l0 = 11 + 10 ∧ CT yX11_skying cX11_skying 3 none 4 0 0 [vR l0] 312 m none 312 out := by
  unfold X11_skying at h
  obtain ⟨hK, h⟩ := ite_some h
  have hlv : 3 < 4 := by decide
  refine ⟨hK, CT.of (by decide +kernel) rfl (Nat.le_of_ble_eq_true rfl) (ls := [some (vR l0), none, none]) rfl fun g w C _ => ?_⟩
  refine j_aload_n C dX11_skying_0 rfl ?_
  refine j_iconst C dX11_skying_1 rfl ?_
  obtain ⟨p1, ep1, h⟩ := bind_some h
  have qp1 := X11_counts_ct ep1
  refine j_cVI C dX11_skying_2 vl_X11_382 CF11 rfl qp1.1 qp1.2 (by omega) rfl rfl (Nat.le_of_ble_eq_true rfl) ?_
  refine j_if_ne C 9 dX11_skying_5 rfl h (fun c41 h => ?_) (fun c41 h => ?_)
  · refine j_aload_n C dX11_skying_9 rfl ?_
    refine j_getI C dX11_skying_10 CF11 (by decide) fl_X11_20 rfl rfl h (fun t2 h => ?_)
    refine j_iconst C dX11_skying_13 rfl ?_
    refine j_icmp_ne C 50 dX11_skying_14 rfl h (fun c40 h => ?_) (fun c40 h => ?_)
    · exact X11_skying_J50_ok C hlv h
    · refine j_aload_n C dX11_skying_17 rfl ?_
      refine j_getI C dX11_skying_18 CF11 (by decide) fl_X11_26 rfl rfl h (fun t33 h => ?_)
      refine j_aload_n C dX11_skying_21 rfl ?_
      refine j_getI C dX11_skying_22 CF11 (by decide) fl_X11_23 rfl rfl h (fun t34 h => ?_)
      refine j_isub C dX11_skying_25 ?_
      refine j_iconst C dX11_skying_26 rfl ?_
      refine j_bipush C dX11_skying_27 rfl ?_
      obtain ⟨p35, ep35, h⟩ := bind_some h
      have qp35 := X11_is_ct ep35
      refine j_cSI C dX11_skying_29 sl_X11_334 qp35 (by omega) rfl rfl (Nat.le_of_ble_eq_true rfl) ?_
      refine j_if_eq C 50 dX11_skying_32 rfl h (fun c39 h => ?_) (fun c39 h => ?_)
      · exact X11_skying_J50_ok C hlv h
      · refine j_aload_n C dX11_skying_35 rfl ?_
        refine j_getI C dX11_skying_36 CF11 (by decide) fl_X11_48 rfl rfl h (fun t36 h => ?_)
        refine j_aload_n C dX11_skying_39 rfl ?_
        refine j_getI C dX11_skying_40 CF11 (by decide) fl_X11_23 rfl rfl h (fun t37 h => ?_)
        refine j_icmp_eq C 50 dX11_skying_43 rfl h (fun c38 h => ?_) (fun c38 h => ?_)
        · exact X11_skying_J50_ok C hlv h
        · refine j_iconst C dX11_skying_46 rfl ?_
          refine j_goto C 51 dX11_skying_47 rfl ?_
          exact X11_skying_J51_ok C hlv h
  · have e := Option.some.inj h
    subst e
    exact j_rv C dX11_skying_8 rfl rfl
theorem dX11_telling_0 : decode cX11_telling 0 = .ok (.aload_n 0, 1) := by decide +kernel
theorem dX11_telling_1 : decode cX11_telling 1 = .ok (.iconst 0, 1) := by decide +kernel
theorem dX11_telling_2 : decode cX11_telling 2 = .ok (.invokevirtual 382, 3) := by decide +kernel
theorem dX11_telling_5 : decode cX11_telling 5 = .ok (.ifCond .ne 4, 3) := by decide +kernel
theorem dX11_telling_8 : decode cX11_telling 8 = .ok (.return_, 1) := by decide +kernel
theorem dX11_telling_9 : decode cX11_telling 9 = .ok (.iload_n 1, 1) := by decide +kernel
theorem dX11_telling_10 : decode cX11_telling 10 = .ok (.ifCond .ne 14, 3) := by decide +kernel
theorem dX11_telling_13 : decode cX11_telling 13 = .ok (.aload_n 0, 1) := by decide +kernel
theorem dX11_telling_14 : decode cX11_telling 14 = .ok (.iconst 0, 1) := by decide +kernel
theorem dX11_telling_15 : decode cX11_telling 15 = .ok (.sipush 999, 3) := by decide +kernel
theorem dX11_telling_18 : decode cX11_telling 18 = .ok (.invokevirtual 376, 3) := by decide +kernel
theorem dX11_telling_21 : decode cX11_telling 21 = .ok (.goto 25, 3) := by decide +kernel
theorem dX11_telling_24 : decode cX11_telling 24 = .ok (.iload_n 1, 1) := by decide +kernel
theorem dX11_telling_25 : decode cX11_telling 25 = .ok (.iconst 1, 1) := by decide +kernel
theorem dX11_telling_26 : decode cX11_telling 26 = .ok (.if_icmp .ne 13, 3) := by decide +kernel
theorem dX11_telling_29 : decode cX11_telling 29 = .ok (.aload_n 0, 1) := by decide +kernel
theorem dX11_telling_30 : decode cX11_telling 30 = .ok (.iconst 0, 1) := by decide +kernel
theorem dX11_telling_31 : decode cX11_telling 31 = .ok (.bipush 100, 2) := by decide +kernel
theorem dX11_telling_33 : decode cX11_telling 33 = .ok (.invokevirtual 376, 3) := by decide +kernel
theorem dX11_telling_36 : decode cX11_telling 36 = .ok (.goto 10, 3) := by decide +kernel
theorem dX11_telling_39 : decode cX11_telling 39 = .ok (.aload_n 0, 1) := by decide +kernel
theorem dX11_telling_40 : decode cX11_telling 40 = .ok (.iconst 1, 1) := by decide +kernel
theorem dX11_telling_41 : decode cX11_telling 41 = .ok (.bipush 20, 2) := by decide +kernel
theorem dX11_telling_43 : decode cX11_telling 43 = .ok (.invokevirtual 376, 3) := by decide +kernel
theorem dX11_telling_46 : decode cX11_telling 46 = .ok (.istore_n 2, 1) := by decide +kernel
theorem dX11_telling_47 : decode cX11_telling 47 = .ok (.aload_n 0, 1) := by decide +kernel
theorem dX11_telling_48 : decode cX11_telling 48 = .ok (.getfield 36, 3) := by decide +kernel
theorem dX11_telling_51 : decode cX11_telling 51 = .ok (.ifCond .le 4, 3) := by decide +kernel
theorem dX11_telling_54 : decode cX11_telling 54 = .ok (.return_, 1) := by decide +kernel
theorem dX11_telling_55 : decode cX11_telling 55 = .ok (.iload_n 1, 1) := by decide +kernel
theorem dX11_telling_56 : decode cX11_telling 56 = .ok (.ifCond .ne 13, 3) := by decide +kernel
theorem dX11_telling_59 : decode cX11_telling 59 = .ok (.aload_n 0, 1) := by decide +kernel
theorem dX11_telling_60 : decode cX11_telling 60 = .ok (.getfield 108, 3) := by decide +kernel
theorem dX11_telling_63 : decode cX11_telling 63 = .ok (.aload_n 0, 1) := by decide +kernel
theorem dX11_telling_64 : decode cX11_telling 64 = .ok (.getfield 133, 3) := by decide +kernel
theorem dX11_telling_67 : decode cX11_telling 67 = .ok (.iload_n 2, 1) := by decide +kernel
theorem dX11_telling_68 : decode cX11_telling 68 = .ok (.iastore, 1) := by decide +kernel
theorem dX11_telling_69 : decode cX11_telling 69 = .ok (.iload_n 1, 1) := by decide +kernel
theorem dX11_telling_70 : decode cX11_telling 70 = .ok (.iconst 1, 1) := by decide +kernel
theorem dX11_telling_71 : decode cX11_telling 71 = .ok (.if_icmp .ne 13, 3) := by decide +kernel
theorem dX11_telling_74 : decode cX11_telling 74 = .ok (.aload_n 0, 1) := by decide +kernel
theorem dX11_telling_75 : decode cX11_telling 75 = .ok (.getfield 111, 3) := by decide +kernel
theorem dX11_telling_78 : decode cX11_telling 78 = .ok (.aload_n 0, 1) := by decide +kernel
theorem dX11_telling_79 : decode cX11_telling 79 = .ok (.getfield 133, 3) := by decide +kernel
theorem dX11_telling_82 : decode cX11_telling 82 = .ok (.iload_n 2, 1) := by decide +kernel
theorem dX11_telling_83 : decode cX11_telling 83 = .ok (.iastore, 1) := by decide +kernel
theorem dX11_telling_84 : decode cX11_telling 84 = .ok (.iload_n 1, 1) := by decide +kernel
theorem dX11_telling_85 : decode cX11_telling 85 = .ok (.iconst 2, 1) := by decide +kernel
theorem dX11_telling_86 : decode cX11_telling 86 = .ok (.if_icmp .ne 13, 3) := by decide +kernel
theorem dX11_telling_89 : decode cX11_telling 89 = .ok (.aload_n 0, 1) := by decide +kernel
theorem dX11_telling_90 : decode cX11_telling 90 = .ok (.getfield 114, 3) := by decide +kernel
theorem dX11_telling_93 : decode cX11_telling 93 = .ok (.aload_n 0, 1) := by decide +kernel
theorem dX11_telling_94 : decode cX11_telling 94 = .ok (.getfield 133, 3) := by decide +kernel
theorem dX11_telling_97 : decode cX11_telling 97 = .ok (.iload_n 2, 1) := by decide +kernel
theorem dX11_telling_98 : decode cX11_telling 98 = .ok (.iastore, 1) := by decide +kernel
theorem dX11_telling_99 : decode cX11_telling 99 = .ok (.return_, 1) := by decide +kernel
set_option maxRecDepth 100000 in
set_option maxHeartbeats 4000000 in
theorem X11_telling_J84_ok {g : Gm} {w : Wd} (C : Cx g w RX11 cX11_telling 3 none) {lv : Nat} (hlv : 4 < lv) {N : Nat} {l0 : Nat} {l1 : Int} {l2 : Int} {m : Mem} {out : Mem} (h : X11_telling_J84 N l0 l1 l2 m = some out) : Jd g w 3 (rmL lv 0 0) (Qm g w none out) 84 [some (vR l0), some (vI l1), some (vI l2)] [] 312 m 0 0 := by
  unfold X11_telling_J84 at h
  refine j_iload_n C dX11_telling_84 rfl ?_
  refine j_iconst C dX11_telling_85 rfl ?_
  refine j_icmp_ne C 99 dX11_telling_86 rfl h (fun c7 h => ?_) (fun c7 h => ?_)
  · have e := Option.some.inj h
    subst e
    exact j_rv C dX11_telling_99 rfl rfl
  · refine j_aload_n C dX11_telling_89 rfl ?_
    refine j_getR C dX11_telling_90 CF11 (by decide) fl_X11_114 rfl rfl h (fun t4 h => ?_)
    refine j_aload_n C dX11_telling_93 rfl ?_
    refine j_getI C dX11_telling_94 CF11 (by decide) fl_X11_133 rfl rfl h (fun t5 h => ?_)
    refine j_iload_n C dX11_telling_97 rfl ?_
    refine j_iast C dX11_telling_98 rfl h (fun m6 h => ?_)
    have e := Option.some.inj h
    subst e
    exact j_rv C dX11_telling_99 rfl rfl
set_option maxRecDepth 100000 in
set_option maxHeartbeats 4000000 in
theorem X11_telling_J69_ok {g : Gm} {w : Wd} (C : Cx g w RX11 cX11_telling 3 none) {lv : Nat} (hlv : 4 < lv) {N : Nat} {l0 : Nat} {l1 : Int} {l2 : Int} {m : Mem} {out : Mem} (h : X11_telling_J69 N l0 l1 l2 m = some out) : Jd g w 3 (rmL lv 0 0) (Qm g w none out) 69 [some (vR l0), some (vI l1), some (vI l2)] [] 312 m 0 0 := by
  unfold X11_telling_J69 at h
  refine j_iload_n C dX11_telling_69 rfl ?_
  refine j_iconst C dX11_telling_70 rfl ?_
  refine j_icmp_ne C 84 dX11_telling_71 rfl h (fun c11 h => ?_) (fun c11 h => ?_)
  · exact X11_telling_J84_ok C hlv h
  · refine j_aload_n C dX11_telling_74 rfl ?_
    refine j_getR C dX11_telling_75 CF11 (by decide) fl_X11_111 rfl rfl h (fun t8 h => ?_)
    refine j_aload_n C dX11_telling_78 rfl ?_
    refine j_getI C dX11_telling_79 CF11 (by decide) fl_X11_133 rfl rfl h (fun t9 h => ?_)
    refine j_iload_n C dX11_telling_82 rfl ?_
    refine j_iast C dX11_telling_83 rfl h (fun m10 h => ?_)
    exact X11_telling_J84_ok C hlv h
set_option maxRecDepth 100000 in
set_option maxHeartbeats 4000000 in
theorem X11_telling_J46_ok {g : Gm} {w : Wd} (C : Cx g w RX11 cX11_telling 3 none) {lv : Nat} (hlv : 4 < lv) {N : Nat} {l0 : Nat} {l1 : Int} {s0 : Int} {m : Mem} {out : Mem} (h : X11_telling_J46 N l0 l1 s0 m = some out) : Jd g w 3 (rmL lv 0 0) (Qm g w none out) 46 [some (vR l0), some (vI l1), none] [vI s0] 312 m 0 0 := by
  unfold X11_telling_J46 at h
  refine j_istore_n (ls' := [some (vR _), some (vI _), some (vI _)]) C dX11_telling_46 (by decide) rfl ?_
  refine j_aload_n C dX11_telling_47 rfl ?_
  refine j_getI C dX11_telling_48 CF11 (by decide) fl_X11_36 rfl rfl h (fun t3 h => ?_)
  refine j_if_le C 55 dX11_telling_51 rfl h (fun c16 h => ?_) (fun c16 h => ?_)
  · refine j_iload_n C dX11_telling_55 rfl ?_
    refine j_if_ne C 69 dX11_telling_56 rfl h (fun c15 h => ?_) (fun c15 h => ?_)
    · exact X11_telling_J69_ok C hlv h
    · refine j_aload_n C dX11_telling_59 rfl ?_
      refine j_getR C dX11_telling_60 CF11 (by decide) fl_X11_108 rfl rfl h (fun t12 h => ?_)
      refine j_aload_n C dX11_telling_63 rfl ?_
      refine j_getI C dX11_telling_64 CF11 (by decide) fl_X11_133 rfl rfl h (fun t13 h => ?_)
      refine j_iload_n C dX11_telling_67 rfl ?_
      refine j_iast C dX11_telling_68 rfl h (fun m14 h => ?_)
      exact X11_telling_J69_ok C hlv h
  · have e := Option.some.inj h
    subst e
    exact j_rv C dX11_telling_54 rfl rfl
set_option maxRecDepth 100000 in
set_option maxHeartbeats 4000000 in
theorem X11_telling_ct {N : Nat} {l0 : Nat} {l1 : Int} {m : Mem} {out : Mem} (h : X11_telling N l0 l1 m = some out) : shK l0 = 11 + 10 ∧ CT yX11_telling cX11_telling 3 none 5 0 0 [vR l0, vI l1] 312 m none 312 out := by
  unfold X11_telling at h
  obtain ⟨hK, h⟩ := ite_some h
  have hlv : 4 < 5 := by decide
  refine ⟨hK, CT.of (by decide +kernel) rfl (Nat.le_of_ble_eq_true rfl) (ls := [some (vR l0), some (vI l1), none]) rfl fun g w C _ => ?_⟩
  refine j_aload_n C dX11_telling_0 rfl ?_
  refine j_iconst C dX11_telling_1 rfl ?_
  obtain ⟨p1, ep1, h⟩ := bind_some h
  have qp1 := X11_counts_ct ep1
  refine j_cVI C dX11_telling_2 vl_X11_382 CF11 rfl qp1.1 qp1.2 (by omega) rfl rfl (Nat.le_of_ble_eq_true rfl) ?_
  refine j_if_ne C 9 dX11_telling_5 rfl h (fun c21 h => ?_) (fun c21 h => ?_)
  · refine j_iload_n C dX11_telling_9 rfl ?_
    refine j_if_ne C 24 dX11_telling_10 rfl h (fun c20 h => ?_) (fun c20 h => ?_)
    · refine j_iload_n C dX11_telling_24 rfl ?_
      refine j_iconst C dX11_telling_25 rfl ?_
      refine j_icmp_ne C 39 dX11_telling_26 rfl h (fun c18 h => ?_) (fun c18 h => ?_)
      · refine j_aload_n C dX11_telling_39 rfl ?_
        refine j_iconst C dX11_telling_40 rfl ?_
        refine j_bipush C dX11_telling_41 rfl ?_
        obtain ⟨p2, ep2, h⟩ := bind_some h
        have qp2 := X11_number_ct ep2
        refine j_cVI C dX11_telling_43 vl_X11_376 CF11 rfl qp2.1 qp2.2 (by omega) rfl rfl (Nat.le_of_ble_eq_true rfl) ?_
        exact X11_telling_J46_ok C hlv h
      · refine j_aload_n C dX11_telling_29 rfl ?_
        refine j_iconst C dX11_telling_30 rfl ?_
        refine j_bipush C dX11_telling_31 rfl ?_
        obtain ⟨p17, ep17, h⟩ := bind_some h
        have qp17 := X11_number_ct ep17
        refine j_cVI C dX11_telling_33 vl_X11_376 CF11 rfl qp17.1 qp17.2 (by omega) rfl rfl (Nat.le_of_ble_eq_true rfl) ?_
        refine j_goto C 46 dX11_telling_36 rfl ?_
        exact X11_telling_J46_ok C hlv h
    · refine j_aload_n C dX11_telling_13 rfl ?_
      refine j_iconst C dX11_telling_14 rfl ?_
      refine j_sipush C dX11_telling_15 rfl ?_
      obtain ⟨p19, ep19, h⟩ := bind_some h
      have qp19 := X11_number_ct ep19
      refine j_cVI C dX11_telling_18 vl_X11_376 CF11 rfl qp19.1 qp19.2 (by omega) rfl rfl (Nat.le_of_ble_eq_true rfl) ?_
      refine j_goto C 46 dX11_telling_21 rfl ?_
      exact X11_telling_J46_ok C hlv h
  · have e := Option.some.inj h
    subst e
    exact j_rv C dX11_telling_8 rfl rfl
theorem dX11_statement_0 : decode cX11_statement 0 = .ok (.aload_n 0, 1) := by decide +kernel
theorem dX11_statement_1 : decode cX11_statement 1 = .ok (.invokevirtual 271, 3) := by decide +kernel
theorem dX11_statement_4 : decode cX11_statement 4 = .ok (.aload_n 0, 1) := by decide +kernel
theorem dX11_statement_5 : decode cX11_statement 5 = .ok (.getfield 36, 3) := by decide +kernel
theorem dX11_statement_8 : decode cX11_statement 8 = .ok (.ifCond .le 4, 3) := by decide +kernel
theorem dX11_statement_11 : decode cX11_statement 11 = .ok (.return_, 1) := by decide +kernel
theorem dX11_statement_12 : decode cX11_statement 12 = .ok (.aload_n 0, 1) := by decide +kernel
theorem dX11_statement_13 : decode cX11_statement 13 = .ok (.ldc2_w 282, 3) := by decide +kernel
theorem dX11_statement_16 : decode cX11_statement 16 = .ok (.invokevirtual 354, 3) := by decide +kernel
theorem dX11_statement_19 : decode cX11_statement 19 = .ok (.ifCond .eq 10, 3) := by decide +kernel
theorem dX11_statement_22 : decode cX11_statement 22 = .ok (.aload_n 0, 1) := by decide +kernel
theorem dX11_statement_23 : decode cX11_statement 23 = .ok (.invokevirtual 400, 3) := by decide +kernel
theorem dX11_statement_26 : decode cX11_statement 26 = .ok (.goto 222, 3) := by decide +kernel
theorem dX11_statement_29 : decode cX11_statement 29 = .ok (.aload_n 0, 1) := by decide +kernel
theorem dX11_statement_30 : decode cX11_statement 30 = .ok (.ldc2_w 286, 3) := by decide +kernel
theorem dX11_statement_33 : decode cX11_statement 33 = .ok (.invokevirtual 354, 3) := by decide +kernel
theorem dX11_statement_36 : decode cX11_statement 36 = .ok (.ifCond .eq 10, 3) := by decide +kernel
theorem dX11_statement_39 : decode cX11_statement 39 = .ok (.aload_n 0, 1) := by decide +kernel
theorem dX11_statement_40 : decode cX11_statement 40 = .ok (.invokevirtual 403, 3) := by decide +kernel
theorem dX11_statement_43 : decode cX11_statement 43 = .ok (.goto 205, 3) := by decide +kernel
theorem dX11_statement_46 : decode cX11_statement 46 = .ok (.aload_n 0, 1) := by decide +kernel
theorem dX11_statement_47 : decode cX11_statement 47 = .ok (.ldc2_w 288, 3) := by decide +kernel
theorem dX11_statement_50 : decode cX11_statement 50 = .ok (.invokevirtual 354, 3) := by decide +kernel
theorem dX11_statement_53 : decode cX11_statement 53 = .ok (.ifCond .eq 10, 3) := by decide +kernel
theorem dX11_statement_56 : decode cX11_statement 56 = .ok (.aload_n 0, 1) := by decide +kernel
theorem dX11_statement_57 : decode cX11_statement 57 = .ok (.invokevirtual 406, 3) := by decide +kernel
theorem dX11_statement_60 : decode cX11_statement 60 = .ok (.goto 188, 3) := by decide +kernel
theorem dX11_statement_63 : decode cX11_statement 63 = .ok (.aload_n 0, 1) := by decide +kernel
theorem dX11_statement_64 : decode cX11_statement 64 = .ok (.ldc2_w 290, 3) := by decide +kernel
theorem dX11_statement_67 : decode cX11_statement 67 = .ok (.invokevirtual 354, 3) := by decide +kernel
theorem dX11_statement_70 : decode cX11_statement 70 = .ok (.ifCond .eq 10, 3) := by decide +kernel
theorem dX11_statement_73 : decode cX11_statement 73 = .ok (.aload_n 0, 1) := by decide +kernel
theorem dX11_statement_74 : decode cX11_statement 74 = .ok (.invokevirtual 409, 3) := by decide +kernel
theorem dX11_statement_77 : decode cX11_statement 77 = .ok (.goto 171, 3) := by decide +kernel
theorem dX11_statement_80 : decode cX11_statement 80 = .ok (.aload_n 0, 1) := by decide +kernel
theorem dX11_statement_81 : decode cX11_statement 81 = .ok (.ldc2_w 292, 3) := by decide +kernel
theorem dX11_statement_84 : decode cX11_statement 84 = .ok (.invokevirtual 354, 3) := by decide +kernel
theorem dX11_statement_87 : decode cX11_statement 87 = .ok (.ifCond .eq 11, 3) := by decide +kernel
theorem dX11_statement_90 : decode cX11_statement 90 = .ok (.aload_n 0, 1) := by decide +kernel
theorem dX11_statement_91 : decode cX11_statement 91 = .ok (.iconst 0, 1) := by decide +kernel
theorem dX11_statement_92 : decode cX11_statement 92 = .ok (.invokevirtual 412, 3) := by decide +kernel
theorem dX11_statement_95 : decode cX11_statement 95 = .ok (.goto 153, 3) := by decide +kernel
theorem dX11_statement_98 : decode cX11_statement 98 = .ok (.aload_n 0, 1) := by decide +kernel
theorem dX11_statement_99 : decode cX11_statement 99 = .ok (.ldc2_w 296, 3) := by decide +kernel
theorem dX11_statement_102 : decode cX11_statement 102 = .ok (.invokevirtual 354, 3) := by decide +kernel
theorem dX11_statement_105 : decode cX11_statement 105 = .ok (.ifCond .eq 11, 3) := by decide +kernel
theorem dX11_statement_108 : decode cX11_statement 108 = .ok (.aload_n 0, 1) := by decide +kernel
theorem dX11_statement_109 : decode cX11_statement 109 = .ok (.iconst 1, 1) := by decide +kernel
theorem dX11_statement_110 : decode cX11_statement 110 = .ok (.invokevirtual 412, 3) := by decide +kernel
theorem dX11_statement_113 : decode cX11_statement 113 = .ok (.goto 135, 3) := by decide +kernel
theorem dX11_statement_116 : decode cX11_statement 116 = .ok (.aload_n 0, 1) := by decide +kernel
theorem dX11_statement_117 : decode cX11_statement 117 = .ok (.ldc2_w 298, 3) := by decide +kernel
theorem dX11_statement_120 : decode cX11_statement 120 = .ok (.invokevirtual 354, 3) := by decide +kernel
theorem dX11_statement_123 : decode cX11_statement 123 = .ok (.ifCond .eq 11, 3) := by decide +kernel
theorem dX11_statement_126 : decode cX11_statement 126 = .ok (.aload_n 0, 1) := by decide +kernel
theorem dX11_statement_127 : decode cX11_statement 127 = .ok (.iconst 2, 1) := by decide +kernel
theorem dX11_statement_128 : decode cX11_statement 128 = .ok (.invokevirtual 412, 3) := by decide +kernel
theorem dX11_statement_131 : decode cX11_statement 131 = .ok (.goto 117, 3) := by decide +kernel
theorem dX11_statement_134 : decode cX11_statement 134 = .ok (.aload_n 0, 1) := by decide +kernel
theorem dX11_statement_135 : decode cX11_statement 135 = .ok (.ldc2_w 300, 3) := by decide +kernel
theorem dX11_statement_138 : decode cX11_statement 138 = .ok (.invokevirtual 354, 3) := by decide +kernel
theorem dX11_statement_141 : decode cX11_statement 141 = .ok (.ifCond .eq 10, 3) := by decide +kernel
theorem dX11_statement_144 : decode cX11_statement 144 = .ok (.aload_n 0, 1) := by decide +kernel
theorem dX11_statement_145 : decode cX11_statement 145 = .ok (.invokevirtual 415, 3) := by decide +kernel
theorem dX11_statement_148 : decode cX11_statement 148 = .ok (.goto 100, 3) := by decide +kernel
theorem dX11_statement_151 : decode cX11_statement 151 = .ok (.aload_n 0, 1) := by decide +kernel
theorem dX11_statement_152 : decode cX11_statement 152 = .ok (.ldc2_w 302, 3) := by decide +kernel
theorem dX11_statement_155 : decode cX11_statement 155 = .ok (.invokevirtual 354, 3) := by decide +kernel
theorem dX11_statement_158 : decode cX11_statement 158 = .ok (.ifCond .eq 10, 3) := by decide +kernel
theorem dX11_statement_161 : decode cX11_statement 161 = .ok (.aload_n 0, 1) := by decide +kernel
theorem dX11_statement_162 : decode cX11_statement 162 = .ok (.invokevirtual 418, 3) := by decide +kernel
theorem dX11_statement_165 : decode cX11_statement 165 = .ok (.goto 83, 3) := by decide +kernel
theorem dX11_statement_168 : decode cX11_statement 168 = .ok (.aload_n 0, 1) := by decide +kernel
theorem dX11_statement_169 : decode cX11_statement 169 = .ok (.ldc2_w 304, 3) := by decide +kernel
theorem dX11_statement_172 : decode cX11_statement 172 = .ok (.invokevirtual 354, 3) := by decide +kernel
theorem dX11_statement_175 : decode cX11_statement 175 = .ok (.ifCond .eq 10, 3) := by decide +kernel
theorem dX11_statement_178 : decode cX11_statement 178 = .ok (.aload_n 0, 1) := by decide +kernel
theorem dX11_statement_179 : decode cX11_statement 179 = .ok (.invokevirtual 421, 3) := by decide +kernel
theorem dX11_statement_182 : decode cX11_statement 182 = .ok (.goto 66, 3) := by decide +kernel
theorem dX11_statement_185 : decode cX11_statement 185 = .ok (.aload_n 0, 1) := by decide +kernel
theorem dX11_statement_186 : decode cX11_statement 186 = .ok (.ldc2_w 306, 3) := by decide +kernel
theorem dX11_statement_189 : decode cX11_statement 189 = .ok (.invokevirtual 354, 3) := by decide +kernel
theorem dX11_statement_192 : decode cX11_statement 192 = .ok (.ifCond .eq 11, 3) := by decide +kernel
theorem dX11_statement_195 : decode cX11_statement 195 = .ok (.aload_n 0, 1) := by decide +kernel
theorem dX11_statement_196 : decode cX11_statement 196 = .ok (.iconst 0, 1) := by decide +kernel
theorem dX11_statement_197 : decode cX11_statement 197 = .ok (.invokevirtual 424, 3) := by decide +kernel
theorem dX11_statement_200 : decode cX11_statement 200 = .ok (.goto 48, 3) := by decide +kernel
theorem dX11_statement_203 : decode cX11_statement 203 = .ok (.aload_n 0, 1) := by decide +kernel
theorem dX11_statement_204 : decode cX11_statement 204 = .ok (.ldc2_w 308, 3) := by decide +kernel
theorem dX11_statement_207 : decode cX11_statement 207 = .ok (.invokevirtual 354, 3) := by decide +kernel
theorem dX11_statement_210 : decode cX11_statement 210 = .ok (.ifCond .eq 11, 3) := by decide +kernel
theorem dX11_statement_213 : decode cX11_statement 213 = .ok (.aload_n 0, 1) := by decide +kernel
theorem dX11_statement_214 : decode cX11_statement 214 = .ok (.iconst 1, 1) := by decide +kernel
theorem dX11_statement_215 : decode cX11_statement 215 = .ok (.invokevirtual 424, 3) := by decide +kernel
theorem dX11_statement_218 : decode cX11_statement 218 = .ok (.goto 30, 3) := by decide +kernel
theorem dX11_statement_221 : decode cX11_statement 221 = .ok (.aload_n 0, 1) := by decide +kernel
theorem dX11_statement_222 : decode cX11_statement 222 = .ok (.ldc2_w 310, 3) := by decide +kernel
theorem dX11_statement_225 : decode cX11_statement 225 = .ok (.invokevirtual 354, 3) := by decide +kernel
theorem dX11_statement_228 : decode cX11_statement 228 = .ok (.ifCond .eq 11, 3) := by decide +kernel
theorem dX11_statement_231 : decode cX11_statement 231 = .ok (.aload_n 0, 1) := by decide +kernel
theorem dX11_statement_232 : decode cX11_statement 232 = .ok (.iconst 2, 1) := by decide +kernel
theorem dX11_statement_233 : decode cX11_statement 233 = .ok (.invokevirtual 424, 3) := by decide +kernel
theorem dX11_statement_236 : decode cX11_statement 236 = .ok (.goto 12, 3) := by decide +kernel
theorem dX11_statement_239 : decode cX11_statement 239 = .ok (.aload_n 0, 1) := by decide +kernel
theorem dX11_statement_240 : decode cX11_statement 240 = .ok (.iconst 1, 1) := by decide +kernel
theorem dX11_statement_241 : decode cX11_statement 241 = .ok (.aload_n 0, 1) := by decide +kernel
theorem dX11_statement_242 : decode cX11_statement 242 = .ok (.getfield 23, 3) := by decide +kernel
theorem dX11_statement_245 : decode cX11_statement 245 = .ok (.invokevirtual 256, 3) := by decide +kernel
theorem dX11_statement_248 : decode cX11_statement 248 = .ok (.return_, 1) := by decide +kernel
set_option maxRecDepth 100000 in
set_option maxHeartbeats 4000000 in
theorem X11_statement_ct {N : Nat} {l0 : Nat} {m : Mem} {out : Mem} (h : X11_statement N l0 m = some out) : shK l0 = 11 + 10 ∧ CT yX11_statement cX11_statement 1 none 7 0 0 [vR l0] 312 m none 312 out := by
  unfold X11_statement at h
  obtain ⟨hK, h⟩ := ite_some h
  have hlv : 6 < 7 := by decide
  refine ⟨hK, CT.of (by decide +kernel) rfl (Nat.le_of_ble_eq_true rfl) (ls := [some (vR l0)]) rfl fun g w C _ => ?_⟩
  refine j_aload_n C dX11_statement_0 rfl ?_
  obtain ⟨p1, ep1, h⟩ := bind_some h
  have qp1 := X11_lex_ct ep1
  refine j_cVV C dX11_statement_1 vl_X11_271 CF11 rfl qp1.1 qp1.2 (by omega) rfl rfl (Nat.le_of_ble_eq_true rfl) ?_
  refine j_aload_n C dX11_statement_4 rfl ?_
  refine j_getI C dX11_statement_5 CF11 (by decide) fl_X11_36 rfl rfl h (fun t2 h => ?_)
  refine j_if_le C 12 dX11_statement_8 rfl h (fun c44 h => ?_) (fun c44 h => ?_)
  · refine j_aload_n C dX11_statement_12 rfl ?_
    refine j_ldc2 (v := 114784769370228) C dX11_statement_13 k_X11_282 rfl rfl ?_
    obtain ⟨p3, ep3, h⟩ := bind_some h
    have qp3 := X11_isWord_ct ep3
    refine j_cVI C dX11_statement_16 vl_X11_354 CF11 rfl qp3.1 qp3.2 (by omega) rfl rfl (Nat.le_of_ble_eq_true rfl) ?_
    refine j_if_eq C 29 dX11_statement_19 rfl h (fun c43 h => ?_) (fun c43 h => ?_)
    · refine j_aload_n C dX11_statement_29 rfl ?_
      refine j_ldc2 (v := 2002873452) C dX11_statement_30 k_X11_286 rfl rfl ?_
      obtain ⟨p4, ep4, h⟩ := bind_some h
      have qp4 := X11_isWord_ct ep4
      refine j_cVI C dX11_statement_33 vl_X11_354 CF11 rfl qp4.1 qp4.2 (by omega) rfl rfl (Nat.le_of_ble_eq_true rfl) ?_
      refine j_if_eq C 46 dX11_statement_36 rfl h (fun c41 h => ?_) (fun c41 h => ?_)
      · refine j_aload_n C dX11_statement_46 rfl ?_
        refine j_ldc2 (v := 448546567013) C dX11_statement_47 k_X11_288 rfl rfl ?_
        obtain ⟨p5, ep5, h⟩ := bind_some h
        have qp5 := X11_isWord_ct ep5
        refine j_cVI C dX11_statement_50 vl_X11_354 CF11 rfl qp5.1 qp5.2 (by omega) rfl rfl (Nat.le_of_ble_eq_true rfl) ?_
        refine j_if_eq C 63 dX11_statement_53 rfl h (fun c39 h => ?_) (fun c39 h => ?_)
        · refine j_aload_n C dX11_statement_63 rfl ?_
          refine j_ldc2 (v := 27981967289315950) C dX11_statement_64 k_X11_290 rfl rfl ?_
          obtain ⟨p6, ep6, h⟩ := bind_some h
          have qp6 := X11_isWord_ct ep6
          refine j_cVI C dX11_statement_67 vl_X11_354 CF11 rfl qp6.1 qp6.2 (by omega) rfl rfl (Nat.le_of_ble_eq_true rfl) ?_
          refine j_if_eq C 80 dX11_statement_70 rfl h (fun c37 h => ?_) (fun c37 h => ?_)
          · refine j_aload_n C dX11_statement_80 rfl ?_
            refine j_ldc2 (v := 427021005928) C dX11_statement_81 k_X11_292 rfl rfl ?_
            obtain ⟨p7, ep7, h⟩ := bind_some h
            have qp7 := X11_isWord_ct ep7
            refine j_cVI C dX11_statement_84 vl_X11_354 CF11 rfl qp7.1 qp7.2 (by omega) rfl rfl (Nat.le_of_ble_eq_true rfl) ?_
            refine j_if_eq C 98 dX11_statement_87 rfl h (fun c35 h => ?_) (fun c35 h => ?_)
            · refine j_aload_n C dX11_statement_98 rfl ?_
              refine j_ldc2 (v := 495874698853) C dX11_statement_99 k_X11_296 rfl rfl ?_
              obtain ⟨p8, ep8, h⟩ := bind_some h
              have qp8 := X11_isWord_ct ep8
              refine j_cVI C dX11_statement_102 vl_X11_354 CF11 rfl qp8.1 qp8.2 (by omega) rfl rfl (Nat.le_of_ble_eq_true rfl) ?_
              refine j_if_eq C 116 dX11_statement_105 rfl h (fun c33 h => ?_) (fun c33 h => ?_)
              · refine j_aload_n C dX11_statement_116 rfl ?_
                refine j_ldc2 (v := 7824738) C dX11_statement_117 k_X11_298 rfl rfl ?_
                obtain ⟨p9, ep9, h⟩ := bind_some h
                have qp9 := X11_isWord_ct ep9
                refine j_cVI C dX11_statement_120 vl_X11_354 CF11 rfl qp9.1 qp9.2 (by omega) rfl rfl (Nat.le_of_ble_eq_true rfl) ?_
                refine j_if_eq C 134 dX11_statement_123 rfl h (fun c31 h => ?_) (fun c31 h => ?_)
                · refine j_aload_n C dX11_statement_134 rfl ?_
                  refine j_ldc2 (v := 7564153) C dX11_statement_135 k_X11_300 rfl rfl ?_
                  obtain ⟨p10, ep10, h⟩ := bind_some h
                  have qp10 := X11_isWord_ct ep10
                  refine j_cVI C dX11_statement_138 vl_X11_354 CF11 rfl qp10.1 qp10.2 (by omega) rfl rfl (Nat.le_of_ble_eq_true rfl) ?_
                  refine j_if_eq C 151 dX11_statement_141 rfl h (fun c29 h => ?_) (fun c29 h => ?_)
                  · refine j_aload_n C dX11_statement_151 rfl ?_
                    refine j_ldc2 (v := 6579575) C dX11_statement_152 k_X11_302 rfl rfl ?_
                    obtain ⟨p11, ep11, h⟩ := bind_some h
                    have qp11 := X11_isWord_ct ep11
                    refine j_cVI C dX11_statement_155 vl_X11_354 CF11 rfl qp11.1 qp11.2 (by omega) rfl rfl (Nat.le_of_ble_eq_true rfl) ?_
                    refine j_if_eq C 168 dX11_statement_158 rfl h (fun c27 h => ?_) (fun c27 h => ?_)
                    · refine j_aload_n C dX11_statement_168 rfl ?_
                      refine j_ldc2 (v := 431416239475) C dX11_statement_169 k_X11_304 rfl rfl ?_
                      obtain ⟨p12, ep12, h⟩ := bind_some h
                      have qp12 := X11_isWord_ct ep12
                      refine j_cVI C dX11_statement_172 vl_X11_354 CF11 rfl qp12.1 qp12.2 (by omega) rfl rfl (Nat.le_of_ble_eq_true rfl) ?_
                      refine j_if_eq C 185 dX11_statement_175 rfl h (fun c25 h => ?_) (fun c25 h => ?_)
                      · refine j_aload_n C dX11_statement_185 rfl ?_
                        refine j_ldc2 (v := 110442557893491) C dX11_statement_186 k_X11_306 rfl rfl ?_
                        obtain ⟨p13, ep13, h⟩ := bind_some h
                        have qp13 := X11_isWord_ct ep13
                        refine j_cVI C dX11_statement_189 vl_X11_354 CF11 rfl qp13.1 qp13.2 (by omega) rfl rfl (Nat.le_of_ble_eq_true rfl) ?_
                        refine j_if_eq C 203 dX11_statement_192 rfl h (fun c23 h => ?_) (fun c23 h => ?_)
                        · refine j_aload_n C dX11_statement_203 rfl ?_
                          refine j_ldc2 (v := 109317377582201) C dX11_statement_204 k_X11_308 rfl rfl ?_
                          obtain ⟨p14, ep14, h⟩ := bind_some h
                          have qp14 := X11_isWord_ct ep14
                          refine j_cVI C dX11_statement_207 vl_X11_354 CF11 rfl qp14.1 qp14.2 (by omega) rfl rfl (Nat.le_of_ble_eq_true rfl) ?_
                          refine j_if_eq C 221 dX11_statement_210 rfl h (fun c21 h => ?_) (fun c21 h => ?_)
                          · refine j_aload_n C dX11_statement_221 rfl ?_
                            refine j_ldc2 (v := 513020620391) C dX11_statement_222 k_X11_310 rfl rfl ?_
                            obtain ⟨p15, ep15, h⟩ := bind_some h
                            have qp15 := X11_isWord_ct ep15
                            refine j_cVI C dX11_statement_225 vl_X11_354 CF11 rfl qp15.1 qp15.2 (by omega) rfl rfl (Nat.le_of_ble_eq_true rfl) ?_
                            refine j_if_eq C 239 dX11_statement_228 rfl h (fun c19 h => ?_) (fun c19 h => ?_)
                            · refine j_aload_n C dX11_statement_239 rfl ?_
                              refine j_iconst C dX11_statement_240 rfl ?_
                              refine j_aload_n C dX11_statement_241 rfl ?_
                              refine j_getI C dX11_statement_242 CF11 (by decide) fl_X11_23 rfl rfl h (fun t16 h => ?_)
                              obtain ⟨p17, ep17, h⟩ := bind_some h
                              have qp17 := X11_blame_ct ep17
                              refine j_cVV C dX11_statement_245 vl_X11_256 CF11 rfl qp17.1 qp17.2 (by omega) rfl rfl (Nat.le_of_ble_eq_true rfl) ?_
                              have e := Option.some.inj h
                              subst e
                              exact j_rv C dX11_statement_248 rfl rfl
                            · refine j_aload_n C dX11_statement_231 rfl ?_
                              refine j_iconst C dX11_statement_232 rfl ?_
                              obtain ⟨p18, ep18, h⟩ := bind_some h
                              have qp18 := X11_telling_ct ep18
                              refine j_cVV C dX11_statement_233 vl_X11_424 CF11 rfl qp18.1 qp18.2 (by omega) rfl rfl (Nat.le_of_ble_eq_true rfl) ?_
                              refine j_goto C 248 dX11_statement_236 rfl ?_
                              have e := Option.some.inj h
                              subst e
                              exact j_rv C dX11_statement_248 rfl rfl
                          · refine j_aload_n C dX11_statement_213 rfl ?_
                            refine j_iconst C dX11_statement_214 rfl ?_
                            obtain ⟨p20, ep20, h⟩ := bind_some h
                            have qp20 := X11_telling_ct ep20
                            refine j_cVV C dX11_statement_215 vl_X11_424 CF11 rfl qp20.1 qp20.2 (by omega) rfl rfl (Nat.le_of_ble_eq_true rfl) ?_
                            refine j_goto C 248 dX11_statement_218 rfl ?_
                            have e := Option.some.inj h
                            subst e
                            exact j_rv C dX11_statement_248 rfl rfl
                        · refine j_aload_n C dX11_statement_195 rfl ?_
                          refine j_iconst C dX11_statement_196 rfl ?_
                          obtain ⟨p22, ep22, h⟩ := bind_some h
                          have qp22 := X11_telling_ct ep22
                          refine j_cVV C dX11_statement_197 vl_X11_424 CF11 rfl qp22.1 qp22.2 (by omega) rfl rfl (Nat.le_of_ble_eq_true rfl) ?_
                          refine j_goto C 248 dX11_statement_200 rfl ?_
                          have e := Option.some.inj h
                          subst e
                          exact j_rv C dX11_statement_248 rfl rfl
                      · refine j_aload_n C dX11_statement_178 rfl ?_
                        obtain ⟨p24, ep24, h⟩ := bind_some h
                        have qp24 := X11_drying_ct ep24
                        refine j_cVV C dX11_statement_179 vl_X11_421 CF11 rfl qp24.1 qp24.2 (by omega) rfl rfl (Nat.le_of_ble_eq_true rfl) ?_
                        refine j_goto C 248 dX11_statement_182 rfl ?_
                        have e := Option.some.inj h
                        subst e
                        exact j_rv C dX11_statement_248 rfl rfl
                    · refine j_aload_n C dX11_statement_161 rfl ?_
                      obtain ⟨p26, ep26, h⟩ := bind_some h
                      have qp26 := X11_dewing_ct ep26
                      refine j_cVV C dX11_statement_162 vl_X11_418 CF11 rfl qp26.1 qp26.2 (by omega) rfl rfl (Nat.le_of_ble_eq_true rfl) ?_
                      refine j_goto C 248 dX11_statement_165 rfl ?_
                      have e := Option.some.inj h
                      subst e
                      exact j_rv C dX11_statement_248 rfl rfl
                  · refine j_aload_n C dX11_statement_144 rfl ?_
                    obtain ⟨p28, ep28, h⟩ := bind_some h
                    have qp28 := X11_skying_ct ep28
                    refine j_cVV C dX11_statement_145 vl_X11_415 CF11 rfl qp28.1 qp28.2 (by omega) rfl rfl (Nat.le_of_ble_eq_true rfl) ?_
                    refine j_goto C 248 dX11_statement_148 rfl ?_
                    have e := Option.some.inj h
                    subst e
                    exact j_rv C dX11_statement_248 rfl rfl
                · refine j_aload_n C dX11_statement_126 rfl ?_
                  refine j_iconst C dX11_statement_127 rfl ?_
                  obtain ⟨p30, ep30, h⟩ := bind_some h
                  have qp30 := X11_thinging_ct ep30
                  refine j_cVV C dX11_statement_128 vl_X11_412 CF11 rfl qp30.1 qp30.2 (by omega) rfl rfl (Nat.le_of_ble_eq_true rfl) ?_
                  refine j_goto C 248 dX11_statement_131 rfl ?_
                  have e := Option.some.inj h
                  subst e
                  exact j_rv C dX11_statement_248 rfl rfl
              · refine j_aload_n C dX11_statement_108 rfl ?_
                refine j_iconst C dX11_statement_109 rfl ?_
                obtain ⟨p32, ep32, h⟩ := bind_some h
                have qp32 := X11_thinging_ct ep32
                refine j_cVV C dX11_statement_110 vl_X11_412 CF11 rfl qp32.1 qp32.2 (by omega) rfl rfl (Nat.le_of_ble_eq_true rfl) ?_
                refine j_goto C 248 dX11_statement_113 rfl ?_
                have e := Option.some.inj h
                subst e
                exact j_rv C dX11_statement_248 rfl rfl
            · refine j_aload_n C dX11_statement_90 rfl ?_
              refine j_iconst C dX11_statement_91 rfl ?_
              obtain ⟨p34, ep34, h⟩ := bind_some h
              have qp34 := X11_thinging_ct ep34
              refine j_cVV C dX11_statement_92 vl_X11_412 CF11 rfl qp34.1 qp34.2 (by omega) rfl rfl (Nat.le_of_ble_eq_true rfl) ?_
              refine j_goto C 248 dX11_statement_95 rfl ?_
              have e := Option.some.inj h
              subst e
              exact j_rv C dX11_statement_248 rfl rfl
          · refine j_aload_n C dX11_statement_73 rfl ?_
            obtain ⟨p36, ep36, h⟩ := bind_some h
            have qp36 := X11_cisterning_ct ep36
            refine j_cVV C dX11_statement_74 vl_X11_409 CF11 rfl qp36.1 qp36.2 (by omega) rfl rfl (Nat.le_of_ble_eq_true rfl) ?_
            refine j_goto C 248 dX11_statement_77 rfl ?_
            have e := Option.some.inj h
            subst e
            exact j_rv C dX11_statement_248 rfl rfl
        · refine j_aload_n C dX11_statement_56 rfl ?_
          obtain ⟨p38, ep38, h⟩ := bind_some h
          have qp38 := X11_housing_ct ep38
          refine j_cVV C dX11_statement_57 vl_X11_406 CF11 rfl qp38.1 qp38.2 (by omega) rfl rfl (Nat.le_of_ble_eq_true rfl) ?_
          refine j_goto C 248 dX11_statement_60 rfl ?_
          have e := Option.some.inj h
          subst e
          exact j_rv C dX11_statement_248 rfl rfl
      · refine j_aload_n C dX11_statement_39 rfl ?_
        obtain ⟨p40, ep40, h⟩ := bind_some h
        have qp40 := X11_walling_ct ep40
        refine j_cVV C dX11_statement_40 vl_X11_403 CF11 rfl qp40.1 qp40.2 (by omega) rfl rfl (Nat.le_of_ble_eq_true rfl) ?_
        refine j_goto C 248 dX11_statement_43 rfl ?_
        have e := Option.some.inj h
        subst e
        exact j_rv C dX11_statement_248 rfl rfl
    · refine j_aload_n C dX11_statement_22 rfl ?_
      obtain ⟨p42, ep42, h⟩ := bind_some h
      have qp42 := X11_heighten_ct ep42
      refine j_cVV C dX11_statement_23 vl_X11_400 CF11 rfl qp42.1 qp42.2 (by omega) rfl rfl (Nat.le_of_ble_eq_true rfl) ?_
      refine j_goto C 248 dX11_statement_26 rfl ?_
      have e := Option.some.inj h
      subst e
      exact j_rv C dX11_statement_248 rfl rfl
  · have e := Option.some.inj h
    subst e
    exact j_rv C dX11_statement_11 rfl rfl
theorem dX11_island_0 : decode cX11_island 0 = .ok (.aload_n 0, 1) := by decide +kernel
theorem dX11_island_1 : decode cX11_island 1 = .ok (.aload_n 0, 1) := by decide +kernel
theorem dX11_island_2 : decode cX11_island 2 = .ok (.getfield 13, 3) := by decide +kernel
theorem dX11_island_5 : decode cX11_island 5 = .ok (.putfield 17, 3) := by decide +kernel
theorem dX11_island_8 : decode cX11_island 8 = .ok (.aload_n 0, 1) := by decide +kernel
theorem dX11_island_9 : decode cX11_island 9 = .ok (.iconst 0, 1) := by decide +kernel
theorem dX11_island_10 : decode cX11_island 10 = .ok (.putfield 13, 3) := by decide +kernel
theorem dX11_island_13 : decode cX11_island 13 = .ok (.aload_n 0, 1) := by decide +kernel
theorem dX11_island_14 : decode cX11_island 14 = .ok (.iconst 0, 1) := by decide +kernel
theorem dX11_island_15 : decode cX11_island 15 = .ok (.putfield 26, 3) := by decide +kernel
theorem dX11_island_18 : decode cX11_island 18 = .ok (.aload_n 0, 1) := by decide +kernel
theorem dX11_island_19 : decode cX11_island 19 = .ok (.iconst 0, 1) := by decide +kernel
theorem dX11_island_20 : decode cX11_island 20 = .ok (.putfield 36, 3) := by decide +kernel
theorem dX11_island_23 : decode cX11_island 23 = .ok (.aload_n 0, 1) := by decide +kernel
theorem dX11_island_24 : decode cX11_island 24 = .ok (.iconst (-1), 1) := by decide +kernel
theorem dX11_island_25 : decode cX11_island 25 = .ok (.putfield 39, 3) := by decide +kernel
theorem dX11_island_28 : decode cX11_island 28 = .ok (.aload_n 0, 1) := by decide +kernel
theorem dX11_island_29 : decode cX11_island 29 = .ok (.iconst 1, 1) := by decide +kernel
theorem dX11_island_30 : decode cX11_island 30 = .ok (.aload_n 0, 1) := by decide +kernel
theorem dX11_island_31 : decode cX11_island 31 = .ok (.getfield 51, 3) := by decide +kernel
theorem dX11_island_34 : decode cX11_island 34 = .ok (.isub, 1) := by decide +kernel
theorem dX11_island_35 : decode cX11_island 35 = .ok (.putfield 133, 3) := by decide +kernel
theorem dX11_island_38 : decode cX11_island 38 = .ok (.aload_n 0, 1) := by decide +kernel
theorem dX11_island_39 : decode cX11_island 39 = .ok (.getfield 69, 3) := by decide +kernel
theorem dX11_island_42 : decode cX11_island 42 = .ok (.aload_n 0, 1) := by decide +kernel
theorem dX11_island_43 : decode cX11_island 43 = .ok (.getfield 133, 3) := by decide +kernel
theorem dX11_island_46 : decode cX11_island 46 = .ok (.iconst 0, 1) := by decide +kernel
theorem dX11_island_47 : decode cX11_island 47 = .ok (.iastore, 1) := by decide +kernel
theorem dX11_island_48 : decode cX11_island 48 = .ok (.aload_n 0, 1) := by decide +kernel
theorem dX11_island_49 : decode cX11_island 49 = .ok (.getfield 72, 3) := by decide +kernel
theorem dX11_island_52 : decode cX11_island 52 = .ok (.aload_n 0, 1) := by decide +kernel
theorem dX11_island_53 : decode cX11_island 53 = .ok (.getfield 133, 3) := by decide +kernel
theorem dX11_island_56 : decode cX11_island 56 = .ok (.iconst 0, 1) := by decide +kernel
theorem dX11_island_57 : decode cX11_island 57 = .ok (.iastore, 1) := by decide +kernel
theorem dX11_island_58 : decode cX11_island 58 = .ok (.aload_n 0, 1) := by decide +kernel
theorem dX11_island_59 : decode cX11_island 59 = .ok (.getfield 75, 3) := by decide +kernel
theorem dX11_island_62 : decode cX11_island 62 = .ok (.aload_n 0, 1) := by decide +kernel
theorem dX11_island_63 : decode cX11_island 63 = .ok (.getfield 133, 3) := by decide +kernel
theorem dX11_island_66 : decode cX11_island 66 = .ok (.iconst 0, 1) := by decide +kernel
theorem dX11_island_67 : decode cX11_island 67 = .ok (.iastore, 1) := by decide +kernel
theorem dX11_island_68 : decode cX11_island 68 = .ok (.aload_n 0, 1) := by decide +kernel
theorem dX11_island_69 : decode cX11_island 69 = .ok (.getfield 81, 3) := by decide +kernel
theorem dX11_island_72 : decode cX11_island 72 = .ok (.aload_n 0, 1) := by decide +kernel
theorem dX11_island_73 : decode cX11_island 73 = .ok (.getfield 133, 3) := by decide +kernel
theorem dX11_island_76 : decode cX11_island 76 = .ok (.iconst 0, 1) := by decide +kernel
theorem dX11_island_77 : decode cX11_island 77 = .ok (.iastore, 1) := by decide +kernel
theorem dX11_island_78 : decode cX11_island 78 = .ok (.aload_n 0, 1) := by decide +kernel
theorem dX11_island_79 : decode cX11_island 79 = .ok (.getfield 96, 3) := by decide +kernel
theorem dX11_island_82 : decode cX11_island 82 = .ok (.aload_n 0, 1) := by decide +kernel
theorem dX11_island_83 : decode cX11_island 83 = .ok (.getfield 133, 3) := by decide +kernel
theorem dX11_island_86 : decode cX11_island 86 = .ok (.iconst (-1), 1) := by decide +kernel
theorem dX11_island_87 : decode cX11_island 87 = .ok (.iastore, 1) := by decide +kernel
theorem dX11_island_88 : decode cX11_island 88 = .ok (.aload_n 0, 1) := by decide +kernel
theorem dX11_island_89 : decode cX11_island 89 = .ok (.getfield 102, 3) := by decide +kernel
theorem dX11_island_92 : decode cX11_island 92 = .ok (.aload_n 0, 1) := by decide +kernel
theorem dX11_island_93 : decode cX11_island 93 = .ok (.getfield 133, 3) := by decide +kernel
theorem dX11_island_96 : decode cX11_island 96 = .ok (.iconst (-1), 1) := by decide +kernel
theorem dX11_island_97 : decode cX11_island 97 = .ok (.iastore, 1) := by decide +kernel
theorem dX11_island_98 : decode cX11_island 98 = .ok (.aload_n 0, 1) := by decide +kernel
theorem dX11_island_99 : decode cX11_island 99 = .ok (.getfield 108, 3) := by decide +kernel
theorem dX11_island_102 : decode cX11_island 102 = .ok (.aload_n 0, 1) := by decide +kernel
theorem dX11_island_103 : decode cX11_island 103 = .ok (.getfield 133, 3) := by decide +kernel
theorem dX11_island_106 : decode cX11_island 106 = .ok (.iconst 0, 1) := by decide +kernel
theorem dX11_island_107 : decode cX11_island 107 = .ok (.iastore, 1) := by decide +kernel
theorem dX11_island_108 : decode cX11_island 108 = .ok (.aload_n 0, 1) := by decide +kernel
theorem dX11_island_109 : decode cX11_island 109 = .ok (.getfield 111, 3) := by decide +kernel
theorem dX11_island_112 : decode cX11_island 112 = .ok (.aload_n 0, 1) := by decide +kernel
theorem dX11_island_113 : decode cX11_island 113 = .ok (.getfield 133, 3) := by decide +kernel
theorem dX11_island_116 : decode cX11_island 116 = .ok (.iconst 0, 1) := by decide +kernel
theorem dX11_island_117 : decode cX11_island 117 = .ok (.iastore, 1) := by decide +kernel
theorem dX11_island_118 : decode cX11_island 118 = .ok (.aload_n 0, 1) := by decide +kernel
theorem dX11_island_119 : decode cX11_island 119 = .ok (.getfield 114, 3) := by decide +kernel
theorem dX11_island_122 : decode cX11_island 122 = .ok (.aload_n 0, 1) := by decide +kernel
theorem dX11_island_123 : decode cX11_island 123 = .ok (.getfield 133, 3) := by decide +kernel
theorem dX11_island_126 : decode cX11_island 126 = .ok (.iconst 5, 1) := by decide +kernel
theorem dX11_island_127 : decode cX11_island 127 = .ok (.iastore, 1) := by decide +kernel
theorem dX11_island_128 : decode cX11_island 128 = .ok (.aload_n 0, 1) := by decide +kernel
theorem dX11_island_129 : decode cX11_island 129 = .ok (.iconst 0, 1) := by decide +kernel
theorem dX11_island_130 : decode cX11_island 130 = .ok (.putfield 130, 3) := by decide +kernel
theorem dX11_island_133 : decode cX11_island 133 = .ok (.iconst 0, 1) := by decide +kernel
theorem dX11_island_134 : decode cX11_island 134 = .ok (.istore_n 1, 1) := by decide +kernel
theorem dX11_island_135 : decode cX11_island 135 = .ok (.iload_n 1, 1) := by decide +kernel
theorem dX11_island_136 : decode cX11_island 136 = .ok (.bipush 42, 2) := by decide +kernel
theorem dX11_island_138 : decode cX11_island 138 = .ok (.if_icmp .ge 54, 3) := by decide +kernel
theorem dX11_island_141 : decode cX11_island 141 = .ok (.aload_n 0, 1) := by decide +kernel
theorem dX11_island_142 : decode cX11_island 142 = .ok (.getfield 60, 3) := by decide +kernel
theorem dX11_island_145 : decode cX11_island 145 = .ok (.bipush 42, 2) := by decide +kernel
theorem dX11_island_147 : decode cX11_island 147 = .ok (.aload_n 0, 1) := by decide +kernel
theorem dX11_island_148 : decode cX11_island 148 = .ok (.getfield 133, 3) := by decide +kernel
theorem dX11_island_151 : decode cX11_island 151 = .ok (.imul, 1) := by decide +kernel
theorem dX11_island_152 : decode cX11_island 152 = .ok (.iload_n 1, 1) := by decide +kernel
theorem dX11_island_153 : decode cX11_island 153 = .ok (.iadd, 1) := by decide +kernel
theorem dX11_island_154 : decode cX11_island 154 = .ok (.iconst 0, 1) := by decide +kernel
theorem dX11_island_155 : decode cX11_island 155 = .ok (.iastore, 1) := by decide +kernel
theorem dX11_island_156 : decode cX11_island 156 = .ok (.aload_n 0, 1) := by decide +kernel
theorem dX11_island_157 : decode cX11_island 157 = .ok (.getfield 63, 3) := by decide +kernel
theorem dX11_island_160 : decode cX11_island 160 = .ok (.bipush 42, 2) := by decide +kernel
theorem dX11_island_162 : decode cX11_island 162 = .ok (.aload_n 0, 1) := by decide +kernel
theorem dX11_island_163 : decode cX11_island 163 = .ok (.getfield 133, 3) := by decide +kernel
theorem dX11_island_166 : decode cX11_island 166 = .ok (.imul, 1) := by decide +kernel
theorem dX11_island_167 : decode cX11_island 167 = .ok (.iload_n 1, 1) := by decide +kernel
theorem dX11_island_168 : decode cX11_island 168 = .ok (.iadd, 1) := by decide +kernel
theorem dX11_island_169 : decode cX11_island 169 = .ok (.iconst 0, 1) := by decide +kernel
theorem dX11_island_170 : decode cX11_island 170 = .ok (.iastore, 1) := by decide +kernel
theorem dX11_island_171 : decode cX11_island 171 = .ok (.aload_n 0, 1) := by decide +kernel
theorem dX11_island_172 : decode cX11_island 172 = .ok (.getfield 66, 3) := by decide +kernel
theorem dX11_island_175 : decode cX11_island 175 = .ok (.bipush 42, 2) := by decide +kernel
theorem dX11_island_177 : decode cX11_island 177 = .ok (.aload_n 0, 1) := by decide +kernel
theorem dX11_island_178 : decode cX11_island 178 = .ok (.getfield 133, 3) := by decide +kernel
theorem dX11_island_181 : decode cX11_island 181 = .ok (.imul, 1) := by decide +kernel
theorem dX11_island_182 : decode cX11_island 182 = .ok (.iload_n 1, 1) := by decide +kernel
theorem dX11_island_183 : decode cX11_island 183 = .ok (.iadd, 1) := by decide +kernel
theorem dX11_island_184 : decode cX11_island 184 = .ok (.iconst 0, 1) := by decide +kernel
theorem dX11_island_185 : decode cX11_island 185 = .ok (.iastore, 1) := by decide +kernel
theorem dX11_island_186 : decode cX11_island 186 = .ok (.iinc 1 1, 3) := by decide +kernel
theorem dX11_island_189 : decode cX11_island 189 = .ok (.goto (-54), 3) := by decide +kernel
theorem dX11_island_192 : decode cX11_island 192 = .ok (.iconst 0, 1) := by decide +kernel
theorem dX11_island_193 : decode cX11_island 193 = .ok (.istore_n 1, 1) := by decide +kernel
theorem dX11_island_194 : decode cX11_island 194 = .ok (.iload_n 1, 1) := by decide +kernel
theorem dX11_island_195 : decode cX11_island 195 = .ok (.bipush 12, 2) := by decide +kernel
theorem dX11_island_197 : decode cX11_island 197 = .ok (.if_icmp .ge 24, 3) := by decide +kernel
theorem dX11_island_200 : decode cX11_island 200 = .ok (.aload_n 0, 1) := by decide +kernel
theorem dX11_island_201 : decode cX11_island 201 = .ok (.getfield 93, 3) := by decide +kernel
theorem dX11_island_204 : decode cX11_island 204 = .ok (.bipush 12, 2) := by decide +kernel
theorem dX11_island_206 : decode cX11_island 206 = .ok (.aload_n 0, 1) := by decide +kernel
theorem dX11_island_207 : decode cX11_island 207 = .ok (.getfield 133, 3) := by decide +kernel
theorem dX11_island_210 : decode cX11_island 210 = .ok (.imul, 1) := by decide +kernel
theorem dX11_island_211 : decode cX11_island 211 = .ok (.iload_n 1, 1) := by decide +kernel
theorem dX11_island_212 : decode cX11_island 212 = .ok (.iadd, 1) := by decide +kernel
theorem dX11_island_213 : decode cX11_island 213 = .ok (.iconst 0, 1) := by decide +kernel
theorem dX11_island_214 : decode cX11_island 214 = .ok (.iastore, 1) := by decide +kernel
theorem dX11_island_215 : decode cX11_island 215 = .ok (.iinc 1 1, 3) := by decide +kernel
theorem dX11_island_218 : decode cX11_island 218 = .ok (.goto (-24), 3) := by decide +kernel
theorem dX11_island_221 : decode cX11_island 221 = .ok (.iconst 1, 1) := by decide +kernel
theorem dX11_island_222 : decode cX11_island 222 = .ok (.istore_n 1, 1) := by decide +kernel
theorem dX11_island_223 : decode cX11_island 223 = .ok (.aload_n 0, 1) := by decide +kernel
theorem dX11_island_224 : decode cX11_island 224 = .ok (.invokevirtual 277, 3) := by decide +kernel
theorem dX11_island_227 : decode cX11_island 227 = .ok (.aload_n 0, 1) := by decide +kernel
theorem dX11_island_228 : decode cX11_island 228 = .ok (.ldc2_w 280, 3) := by decide +kernel
theorem dX11_island_231 : decode cX11_island 231 = .ok (.invokevirtual 372, 3) := by decide +kernel
theorem dX11_island_234 : decode cX11_island 234 = .ok (.aload_n 0, 1) := by decide +kernel
theorem dX11_island_235 : decode cX11_island 235 = .ok (.getfield 54, 3) := by decide +kernel
theorem dX11_island_238 : decode cX11_island 238 = .ok (.aload_n 0, 1) := by decide +kernel
theorem dX11_island_239 : decode cX11_island 239 = .ok (.getfield 133, 3) := by decide +kernel
theorem dX11_island_242 : decode cX11_island 242 = .ok (.aload_n 0, 1) := by decide +kernel
theorem dX11_island_243 : decode cX11_island 243 = .ok (.iconst 2, 1) := by decide +kernel
theorem dX11_island_244 : decode cX11_island 244 = .ok (.bipush 7, 2) := by decide +kernel
theorem dX11_island_246 : decode cX11_island 246 = .ok (.invokevirtual 376, 3) := by decide +kernel
theorem dX11_island_249 : decode cX11_island 249 = .ok (.iastore, 1) := by decide +kernel
theorem dX11_island_250 : decode cX11_island 250 = .ok (.aload_n 0, 1) := by decide +kernel
theorem dX11_island_251 : decode cX11_island 251 = .ok (.getfield 57, 3) := by decide +kernel
theorem dX11_island_254 : decode cX11_island 254 = .ok (.aload_n 0, 1) := by decide +kernel
theorem dX11_island_255 : decode cX11_island 255 = .ok (.getfield 133, 3) := by decide +kernel
theorem dX11_island_258 : decode cX11_island 258 = .ok (.aload_n 0, 1) := by decide +kernel
theorem dX11_island_259 : decode cX11_island 259 = .ok (.iconst 2, 1) := by decide +kernel
theorem dX11_island_260 : decode cX11_island 260 = .ok (.bipush 6, 2) := by decide +kernel
theorem dX11_island_262 : decode cX11_island 262 = .ok (.invokevirtual 376, 3) := by decide +kernel
theorem dX11_island_265 : decode cX11_island 265 = .ok (.iastore, 1) := by decide +kernel
theorem dX11_island_266 : decode cX11_island 266 = .ok (.aload_n 0, 1) := by decide +kernel
theorem dX11_island_267 : decode cX11_island 267 = .ok (.iload_n 1, 1) := by decide +kernel
theorem dX11_island_268 : decode cX11_island 268 = .ok (.invokevirtual 429, 3) := by decide +kernel
theorem dX11_island_271 : decode cX11_island 271 = .ok (.aload_n 0, 1) := by decide +kernel
theorem dX11_island_272 : decode cX11_island 272 = .ok (.getfield 36, 3) := by decide +kernel
theorem dX11_island_275 : decode cX11_island 275 = .ok (.ifCond .ne 25, 3) := by decide +kernel
theorem dX11_island_278 : decode cX11_island 278 = .ok (.aload_n 0, 1) := by decide +kernel
theorem dX11_island_279 : decode cX11_island 279 = .ok (.getfield 20, 3) := by decide +kernel
theorem dX11_island_282 : decode cX11_island 282 = .ok (.ifCond .eq 18, 3) := by decide +kernel
theorem dX11_island_285 : decode cX11_island 285 = .ok (.aload_n 0, 1) := by decide +kernel
theorem dX11_island_286 : decode cX11_island 286 = .ok (.invokevirtual 432, 3) := by decide +kernel
theorem dX11_island_289 : decode cX11_island 289 = .ok (.iinc 1 1, 3) := by decide +kernel
theorem dX11_island_292 : decode cX11_island 292 = .ok (.aload_n 0, 1) := by decide +kernel
theorem dX11_island_293 : decode cX11_island 293 = .ok (.iload_n 1, 1) := by decide +kernel
theorem dX11_island_294 : decode cX11_island 294 = .ok (.invokevirtual 429, 3) := by decide +kernel
theorem dX11_island_297 : decode cX11_island 297 = .ok (.goto (-26), 3) := by decide +kernel
theorem dX11_island_300 : decode cX11_island 300 = .ok (.aload_n 0, 1) := by decide +kernel
theorem dX11_island_301 : decode cX11_island 301 = .ok (.aload_n 0, 1) := by decide +kernel
theorem dX11_island_302 : decode cX11_island 302 = .ok (.getfield 36, 3) := by decide +kernel
theorem dX11_island_305 : decode cX11_island 305 = .ok (.putfield 42, 3) := by decide +kernel
theorem dX11_island_308 : decode cX11_island 308 = .ok (.aload_n 0, 1) := by decide +kernel
theorem dX11_island_309 : decode cX11_island 309 = .ok (.aload_n 0, 1) := by decide +kernel
theorem dX11_island_310 : decode cX11_island 310 = .ok (.getfield 39, 3) := by decide +kernel
theorem dX11_island_313 : decode cX11_island 313 = .ok (.putfield 45, 3) := by decide +kernel
theorem dX11_island_316 : decode cX11_island 316 = .ok (.aload_n 0, 1) := by decide +kernel
theorem dX11_island_317 : decode cX11_island 317 = .ok (.getfield 36, 3) := by decide +kernel
theorem dX11_island_320 : decode cX11_island 320 = .ok (.ifCond .le 9, 3) := by decide +kernel
theorem dX11_island_323 : decode cX11_island 323 = .ok (.aload_n 0, 1) := by decide +kernel
theorem dX11_island_324 : decode cX11_island 324 = .ok (.iconst 1, 1) := by decide +kernel
theorem dX11_island_325 : decode cX11_island 325 = .ok (.invokevirtual 248, 3) := by decide +kernel
theorem dX11_island_328 : decode cX11_island 328 = .ok (.ireturn, 1) := by decide +kernel
theorem dX11_island_329 : decode cX11_island 329 = .ok (.aload_n 0, 1) := by decide +kernel
theorem dX11_island_330 : decode cX11_island 330 = .ok (.aload_n 0, 1) := by decide +kernel
theorem dX11_island_331 : decode cX11_island 331 = .ok (.getfield 133, 3) := by decide +kernel
theorem dX11_island_334 : decode cX11_island 334 = .ok (.putfield 51, 3) := by decide +kernel
theorem dX11_island_337 : decode cX11_island 337 = .ok (.aload_n 0, 1) := by decide +kernel
theorem dX11_island_338 : decode cX11_island 338 = .ok (.invokevirtual 435, 3) := by decide +kernel
theorem dX11_island_341 : decode cX11_island 341 = .ok (.iload_n 1, 1) := by decide +kernel
theorem dX11_island_342 : decode cX11_island 342 = .ok (.ireturn, 1) := by decide +kernel
set_option maxRecDepth 100000 in
set_option maxHeartbeats 4000000 in
theorem X11_island_L135_bok {g : Gm} {w : Wd} (C : Cx g w RX11 cX11_island 2 (some .int)) {lv : Nat} (hlv : 7 < lv) {N : Nat} {k192 : Nat → Mem → Option (Int × Mem)} {r135 : Nat → Int → Mem → Option (Int × Mem)} {l0 : Nat} {l1 : Int} {m : Mem} {out : (Int × Mem)} (hk192 : ∀ l0 m, k192 l0 m = some out → Jd g w 2 (rmL lv 0 0) (Qm g w (some (vI out.1)) out.2) 192 [some (vR l0), none] [] 312 m 0 0) (hr135 : ∀ l0 l1 m, r135 l0 l1 m = some out → Jd g w 2 (rmL lv 0 0) (Qm g w (some (vI out.1)) out.2) 135 [some (vR l0), some (vI l1)] [] 312 m 0 0) (h : X11_island_L135_b N k192 r135 l0 l1 m = some out) : Jd g w 2 (rmL lv 0 0) (Qm g w (some (vI out.1)) out.2) 135 [some (vR l0), some (vI l1)] [] 312 m 0 0 := by
  unfold X11_island_L135_b at h
  refine j_iload_n C dX11_island_135 rfl ?_
  refine j_bipush C dX11_island_136 rfl ?_
  refine j_icmp_ge C 192 dX11_island_138 rfl h (fun c46 h => ?_) (fun c46 h => ?_)
  · refine j_mask [true, false] (ls' := [some (vR _), none]) rfl ?_
    exact hk192 _ _ h
  · refine j_aload_n C dX11_island_141 rfl ?_
    refine j_getR C dX11_island_142 CF11 (by decide) fl_X11_60 rfl rfl h (fun t37 h => ?_)
    refine j_bipush C dX11_island_145 rfl ?_
    refine j_aload_n C dX11_island_147 rfl ?_
    refine j_getI C dX11_island_148 CF11 (by decide) fl_X11_133 rfl rfl h (fun t38 h => ?_)
    refine j_imul C dX11_island_151 ?_
    refine j_iload_n C dX11_island_152 rfl ?_
    refine j_iadd C dX11_island_153 ?_
    refine j_iconst C dX11_island_154 rfl ?_
    refine j_iast C dX11_island_155 rfl h (fun m39 h => ?_)
    refine j_aload_n C dX11_island_156 rfl ?_
    refine j_getR C dX11_island_157 CF11 (by decide) fl_X11_63 rfl rfl h (fun t40 h => ?_)
    refine j_bipush C dX11_island_160 rfl ?_
    refine j_aload_n C dX11_island_162 rfl ?_
    refine j_getI C dX11_island_163 CF11 (by decide) fl_X11_133 rfl rfl h (fun t41 h => ?_)
    refine j_imul C dX11_island_166 ?_
    refine j_iload_n C dX11_island_167 rfl ?_
    refine j_iadd C dX11_island_168 ?_
    refine j_iconst C dX11_island_169 rfl ?_
    refine j_iast C dX11_island_170 rfl h (fun m42 h => ?_)
    refine j_aload_n C dX11_island_171 rfl ?_
    refine j_getR C dX11_island_172 CF11 (by decide) fl_X11_66 rfl rfl h (fun t43 h => ?_)
    refine j_bipush C dX11_island_175 rfl ?_
    refine j_aload_n C dX11_island_177 rfl ?_
    refine j_getI C dX11_island_178 CF11 (by decide) fl_X11_133 rfl rfl h (fun t44 h => ?_)
    refine j_imul C dX11_island_181 ?_
    refine j_iload_n C dX11_island_182 rfl ?_
    refine j_iadd C dX11_island_183 ?_
    refine j_iconst C dX11_island_184 rfl ?_
    refine j_iast C dX11_island_185 rfl h (fun m45 h => ?_)
    refine j_iinc (ls' := [some (vR _), some (vI _)]) C dX11_island_186 rfl (by decide) rfl ?_
    refine j_goto C 135 dX11_island_189 rfl ?_
    exact hr135 _ _ _ h
set_option maxRecDepth 100000 in
set_option maxHeartbeats 4000000 in
theorem X11_island_L135_ok {g : Gm} {w : Wd} (C : Cx g w RX11 cX11_island 2 (some .int)) {lv : Nat} (hlv : 7 < lv) {N : Nat} {k192 : Nat → Mem → Option (Int × Mem)} {out : (Int × Mem)} (hk192 : ∀ l0 m, k192 l0 m = some out → Jd g w 2 (rmL lv 0 0) (Qm g w (some (vI out.1)) out.2) 192 [some (vR l0), none] [] 312 m 0 0) (f : Nat) : ∀ {l0 : Nat} {l1 : Int} {m : Mem}, X11_island_L135 N k192 f l0 l1 m = some out → Jd g w 2 (rmL lv 0 0) (Qm g w (some (vI out.1)) out.2) 135 [some (vR l0), some (vI l1)] [] 312 m 0 0 := by
  induction f with
  | zero => intro l0 l1 m h; exact none_ne (α := (Int × Mem)) h
  | succ f ih => intro l0 l1 m h; exact X11_island_L135_bok C hlv hk192 (fun l0 l1 m h => ih h) h
set_option maxRecDepth 100000 in
set_option maxHeartbeats 4000000 in
theorem X11_island_L194_bok {g : Gm} {w : Wd} (C : Cx g w RX11 cX11_island 2 (some .int)) {lv : Nat} (hlv : 7 < lv) {N : Nat} {k221 : Nat → Mem → Option (Int × Mem)} {r194 : Nat → Int → Mem → Option (Int × Mem)} {l0 : Nat} {l1 : Int} {m : Mem} {out : (Int × Mem)} (hk221 : ∀ l0 m, k221 l0 m = some out → Jd g w 2 (rmL lv 0 0) (Qm g w (some (vI out.1)) out.2) 221 [some (vR l0), none] [] 312 m 0 0) (hr194 : ∀ l0 l1 m, r194 l0 l1 m = some out → Jd g w 2 (rmL lv 0 0) (Qm g w (some (vI out.1)) out.2) 194 [some (vR l0), some (vI l1)] [] 312 m 0 0) (h : X11_island_L194_b N k221 r194 l0 l1 m = some out) : Jd g w 2 (rmL lv 0 0) (Qm g w (some (vI out.1)) out.2) 194 [some (vR l0), some (vI l1)] [] 312 m 0 0 := by
  unfold X11_island_L194_b at h
  refine j_iload_n C dX11_island_194 rfl ?_
  refine j_bipush C dX11_island_195 rfl ?_
  refine j_icmp_ge C 221 dX11_island_197 rfl h (fun c52 h => ?_) (fun c52 h => ?_)
  · refine j_mask [true, false] (ls' := [some (vR _), none]) rfl ?_
    exact hk221 _ _ h
  · refine j_aload_n C dX11_island_200 rfl ?_
    refine j_getR C dX11_island_201 CF11 (by decide) fl_X11_93 rfl rfl h (fun t49 h => ?_)
    refine j_bipush C dX11_island_204 rfl ?_
    refine j_aload_n C dX11_island_206 rfl ?_
    refine j_getI C dX11_island_207 CF11 (by decide) fl_X11_133 rfl rfl h (fun t50 h => ?_)
    refine j_imul C dX11_island_210 ?_
    refine j_iload_n C dX11_island_211 rfl ?_
    refine j_iadd C dX11_island_212 ?_
    refine j_iconst C dX11_island_213 rfl ?_
    refine j_iast C dX11_island_214 rfl h (fun m51 h => ?_)
    refine j_iinc (ls' := [some (vR _), some (vI _)]) C dX11_island_215 rfl (by decide) rfl ?_
    refine j_goto C 194 dX11_island_218 rfl ?_
    exact hr194 _ _ _ h
set_option maxRecDepth 100000 in
set_option maxHeartbeats 4000000 in
theorem X11_island_L194_ok {g : Gm} {w : Wd} (C : Cx g w RX11 cX11_island 2 (some .int)) {lv : Nat} (hlv : 7 < lv) {N : Nat} {k221 : Nat → Mem → Option (Int × Mem)} {out : (Int × Mem)} (hk221 : ∀ l0 m, k221 l0 m = some out → Jd g w 2 (rmL lv 0 0) (Qm g w (some (vI out.1)) out.2) 221 [some (vR l0), none] [] 312 m 0 0) (f : Nat) : ∀ {l0 : Nat} {l1 : Int} {m : Mem}, X11_island_L194 N k221 f l0 l1 m = some out → Jd g w 2 (rmL lv 0 0) (Qm g w (some (vI out.1)) out.2) 194 [some (vR l0), some (vI l1)] [] 312 m 0 0 := by
  induction f with
  | zero => intro l0 l1 m h; exact none_ne (α := (Int × Mem)) h
  | succ f ih => intro l0 l1 m h; exact X11_island_L194_bok C hlv hk221 (fun l0 l1 m h => ih h) h
set_option maxRecDepth 100000 in
set_option maxHeartbeats 4000000 in
theorem X11_island_L271_bok {g : Gm} {w : Wd} (C : Cx g w RX11 cX11_island 2 (some .int)) {lv : Nat} (hlv : 7 < lv) {N : Nat} {k300 : Nat → Int → Mem → Option (Int × Mem)} {r271 : Nat → Int → Mem → Option (Int × Mem)} {l0 : Nat} {l1 : Int} {m : Mem} {out : (Int × Mem)} (hk300 : ∀ l0 l1 m, k300 l0 l1 m = some out → Jd g w 2 (rmL lv 0 0) (Qm g w (some (vI out.1)) out.2) 300 [some (vR l0), some (vI l1)] [] 312 m 0 0) (hr271 : ∀ l0 l1 m, r271 l0 l1 m = some out → Jd g w 2 (rmL lv 0 0) (Qm g w (some (vI out.1)) out.2) 271 [some (vR l0), some (vI l1)] [] 312 m 0 0) (h : X11_island_L271_b N k300 r271 l0 l1 m = some out) : Jd g w 2 (rmL lv 0 0) (Qm g w (some (vI out.1)) out.2) 271 [some (vR l0), some (vI l1)] [] 312 m 0 0 := by
  unfold X11_island_L271_b at h
  refine j_aload_n C dX11_island_271 rfl ?_
  refine j_getI C dX11_island_272 CF11 (by decide) fl_X11_36 rfl rfl h (fun t66 h => ?_)
  refine j_if_ne C 300 dX11_island_275 rfl h (fun c71 h => ?_) (fun c71 h => ?_)
  · exact hk300 _ _ _ h
  · refine j_aload_n C dX11_island_278 rfl ?_
    refine j_getI C dX11_island_279 CF11 (by decide) fl_X11_20 rfl rfl h (fun t67 h => ?_)
    refine j_if_eq C 300 dX11_island_282 rfl h (fun c70 h => ?_) (fun c70 h => ?_)
    · exact hk300 _ _ _ h
    · refine j_aload_n C dX11_island_285 rfl ?_
      obtain ⟨p68, ep68, h⟩ := bind_some h
      have qp68 := X11_statement_ct ep68
      refine j_cVV C dX11_island_286 vl_X11_432 CF11 rfl qp68.1 qp68.2 (by omega) rfl rfl (Nat.le_of_ble_eq_true rfl) ?_
      refine j_iinc (ls' := [some (vR _), some (vI _)]) C dX11_island_289 rfl (by decide) rfl ?_
      refine j_aload_n C dX11_island_292 rfl ?_
      refine j_iload_n C dX11_island_293 rfl ?_
      obtain ⟨p69, ep69, h⟩ := bind_some h
      have qp69 := X11_finishes_ct ep69
      refine j_cVV C dX11_island_294 vl_X11_429 CF11 rfl qp69.1 qp69.2 (by omega) rfl rfl (Nat.le_of_ble_eq_true rfl) ?_
      refine j_goto C 271 dX11_island_297 rfl ?_
      exact hr271 _ _ _ h
set_option maxRecDepth 100000 in
set_option maxHeartbeats 4000000 in
theorem X11_island_L271_ok {g : Gm} {w : Wd} (C : Cx g w RX11 cX11_island 2 (some .int)) {lv : Nat} (hlv : 7 < lv) {N : Nat} {k300 : Nat → Int → Mem → Option (Int × Mem)} {out : (Int × Mem)} (hk300 : ∀ l0 l1 m, k300 l0 l1 m = some out → Jd g w 2 (rmL lv 0 0) (Qm g w (some (vI out.1)) out.2) 300 [some (vR l0), some (vI l1)] [] 312 m 0 0) (f : Nat) : ∀ {l0 : Nat} {l1 : Int} {m : Mem}, X11_island_L271 N k300 f l0 l1 m = some out → Jd g w 2 (rmL lv 0 0) (Qm g w (some (vI out.1)) out.2) 271 [some (vR l0), some (vI l1)] [] 312 m 0 0 := by
  induction f with
  | zero => intro l0 l1 m h; exact none_ne (α := (Int × Mem)) h
  | succ f ih => intro l0 l1 m h; exact X11_island_L271_bok C hlv hk300 (fun l0 l1 m h => ih h) h
set_option maxRecDepth 100000 in
set_option maxHeartbeats 4000000 in
theorem X11_island_ct {N : Nat} {l0 : Nat} {m : Mem} {out : (Int × Mem)} (h : X11_island N l0 m = some out) : shK l0 = 11 + 10 ∧ CT yX11_island cX11_island 2 (some .int) 8 0 0 [vR l0] 312 m (some (vI out.1)) 312 out.2 := by
  unfold X11_island at h
  obtain ⟨hK, h⟩ := ite_some h
  have hlv : 7 < 8 := by decide
  refine ⟨hK, CT.of (by decide +kernel) rfl (Nat.le_of_ble_eq_true rfl) (ls := [some (vR l0), none]) rfl fun g w C _ => ?_⟩
  refine j_aload_n C dX11_island_0 rfl ?_
  refine j_aload_n C dX11_island_1 rfl ?_
  refine j_getI C dX11_island_2 CF11 (by decide) fl_X11_13 rfl rfl h (fun t1 h => ?_)
  refine j_putI C dX11_island_5 CF11 (by decide) fl_X11_17 rfl rfl rfl rfl h (fun m2 h => ?_)
  refine j_aload_n C dX11_island_8 rfl ?_
  refine j_iconst C dX11_island_9 rfl ?_
  refine j_putI C dX11_island_10 CF11 (by decide) fl_X11_13 rfl rfl rfl rfl h (fun m3 h => ?_)
  refine j_aload_n C dX11_island_13 rfl ?_
  refine j_iconst C dX11_island_14 rfl ?_
  refine j_putI C dX11_island_15 CF11 (by decide) fl_X11_26 rfl rfl rfl rfl h (fun m4 h => ?_)
  refine j_aload_n C dX11_island_18 rfl ?_
  refine j_iconst C dX11_island_19 rfl ?_
  refine j_putI C dX11_island_20 CF11 (by decide) fl_X11_36 rfl rfl rfl rfl h (fun m5 h => ?_)
  refine j_aload_n C dX11_island_23 rfl ?_
  refine j_iconst C dX11_island_24 rfl ?_
  refine j_putI C dX11_island_25 CF11 (by decide) fl_X11_39 rfl rfl rfl rfl h (fun m6 h => ?_)
  refine j_aload_n C dX11_island_28 rfl ?_
  refine j_iconst C dX11_island_29 rfl ?_
  refine j_aload_n C dX11_island_30 rfl ?_
  refine j_getI C dX11_island_31 CF11 (by decide) fl_X11_51 rfl rfl h (fun t7 h => ?_)
  refine j_isub C dX11_island_34 ?_
  refine j_putI C dX11_island_35 CF11 (by decide) fl_X11_133 rfl rfl rfl rfl h (fun m8 h => ?_)
  refine j_aload_n C dX11_island_38 rfl ?_
  refine j_getR C dX11_island_39 CF11 (by decide) fl_X11_69 rfl rfl h (fun t9 h => ?_)
  refine j_aload_n C dX11_island_42 rfl ?_
  refine j_getI C dX11_island_43 CF11 (by decide) fl_X11_133 rfl rfl h (fun t10 h => ?_)
  refine j_iconst C dX11_island_46 rfl ?_
  refine j_iast C dX11_island_47 rfl h (fun m11 h => ?_)
  refine j_aload_n C dX11_island_48 rfl ?_
  refine j_getR C dX11_island_49 CF11 (by decide) fl_X11_72 rfl rfl h (fun t12 h => ?_)
  refine j_aload_n C dX11_island_52 rfl ?_
  refine j_getI C dX11_island_53 CF11 (by decide) fl_X11_133 rfl rfl h (fun t13 h => ?_)
  refine j_iconst C dX11_island_56 rfl ?_
  refine j_iast C dX11_island_57 rfl h (fun m14 h => ?_)
  refine j_aload_n C dX11_island_58 rfl ?_
  refine j_getR C dX11_island_59 CF11 (by decide) fl_X11_75 rfl rfl h (fun t15 h => ?_)
  refine j_aload_n C dX11_island_62 rfl ?_
  refine j_getI C dX11_island_63 CF11 (by decide) fl_X11_133 rfl rfl h (fun t16 h => ?_)
  refine j_iconst C dX11_island_66 rfl ?_
  refine j_iast C dX11_island_67 rfl h (fun m17 h => ?_)
  refine j_aload_n C dX11_island_68 rfl ?_
  refine j_getR C dX11_island_69 CF11 (by decide) fl_X11_81 rfl rfl h (fun t18 h => ?_)
  refine j_aload_n C dX11_island_72 rfl ?_
  refine j_getI C dX11_island_73 CF11 (by decide) fl_X11_133 rfl rfl h (fun t19 h => ?_)
  refine j_iconst C dX11_island_76 rfl ?_
  refine j_iast C dX11_island_77 rfl h (fun m20 h => ?_)
  refine j_aload_n C dX11_island_78 rfl ?_
  refine j_getR C dX11_island_79 CF11 (by decide) fl_X11_96 rfl rfl h (fun t21 h => ?_)
  refine j_aload_n C dX11_island_82 rfl ?_
  refine j_getI C dX11_island_83 CF11 (by decide) fl_X11_133 rfl rfl h (fun t22 h => ?_)
  refine j_iconst C dX11_island_86 rfl ?_
  refine j_iast C dX11_island_87 rfl h (fun m23 h => ?_)
  refine j_aload_n C dX11_island_88 rfl ?_
  refine j_getR C dX11_island_89 CF11 (by decide) fl_X11_102 rfl rfl h (fun t24 h => ?_)
  refine j_aload_n C dX11_island_92 rfl ?_
  refine j_getI C dX11_island_93 CF11 (by decide) fl_X11_133 rfl rfl h (fun t25 h => ?_)
  refine j_iconst C dX11_island_96 rfl ?_
  refine j_iast C dX11_island_97 rfl h (fun m26 h => ?_)
  refine j_aload_n C dX11_island_98 rfl ?_
  refine j_getR C dX11_island_99 CF11 (by decide) fl_X11_108 rfl rfl h (fun t27 h => ?_)
  refine j_aload_n C dX11_island_102 rfl ?_
  refine j_getI C dX11_island_103 CF11 (by decide) fl_X11_133 rfl rfl h (fun t28 h => ?_)
  refine j_iconst C dX11_island_106 rfl ?_
  refine j_iast C dX11_island_107 rfl h (fun m29 h => ?_)
  refine j_aload_n C dX11_island_108 rfl ?_
  refine j_getR C dX11_island_109 CF11 (by decide) fl_X11_111 rfl rfl h (fun t30 h => ?_)
  refine j_aload_n C dX11_island_112 rfl ?_
  refine j_getI C dX11_island_113 CF11 (by decide) fl_X11_133 rfl rfl h (fun t31 h => ?_)
  refine j_iconst C dX11_island_116 rfl ?_
  refine j_iast C dX11_island_117 rfl h (fun m32 h => ?_)
  refine j_aload_n C dX11_island_118 rfl ?_
  refine j_getR C dX11_island_119 CF11 (by decide) fl_X11_114 rfl rfl h (fun t33 h => ?_)
  refine j_aload_n C dX11_island_122 rfl ?_
  refine j_getI C dX11_island_123 CF11 (by decide) fl_X11_133 rfl rfl h (fun t34 h => ?_)
  refine j_iconst C dX11_island_126 rfl ?_
  refine j_iast C dX11_island_127 rfl h (fun m35 h => ?_)
  refine j_aload_n C dX11_island_128 rfl ?_
  refine j_iconst C dX11_island_129 rfl ?_
  refine j_putI C dX11_island_130 CF11 (by decide) fl_X11_130 rfl rfl rfl rfl h (fun m36 h => ?_)
  refine j_iconst C dX11_island_133 rfl ?_
  refine j_istore_n (ls' := [some (vR _), some (vI _)]) C dX11_island_134 (by decide) rfl ?_
  refine X11_island_L135_ok C hlv (fun z47 m48 h => ?_) N h
  refine j_iconst C dX11_island_192 rfl ?_
  refine j_istore_n (ls' := [some (vR _), some (vI _)]) C dX11_island_193 (by decide) rfl ?_
  refine X11_island_L194_ok C hlv (fun z53 m54 h => ?_) N h
  refine j_iconst C dX11_island_221 rfl ?_
  refine j_istore_n (ls' := [some (vR _), some (vI _)]) C dX11_island_222 (by decide) rfl ?_
  refine j_aload_n C dX11_island_223 rfl ?_
  obtain ⟨p55, ep55, h⟩ := bind_some h
  have qp55 := X11_ahead_ct ep55
  refine j_cVV C dX11_island_224 vl_X11_277 CF11 rfl qp55.1 qp55.2 (by omega) rfl rfl (Nat.le_of_ble_eq_true rfl) ?_
  refine j_aload_n C dX11_island_227 rfl ?_
  refine j_ldc2 (v := 115944460480100) C dX11_island_228 k_X11_280 rfl rfl ?_
  obtain ⟨p56, ep56, h⟩ := bind_some h
  have qp56 := X11_must__ct ep56
  refine j_cVV C dX11_island_231 vl_X11_372 CF11 rfl qp56.1 qp56.2 (by omega) rfl rfl (Nat.le_of_ble_eq_true rfl) ?_
  refine j_aload_n C dX11_island_234 rfl ?_
  refine j_getR C dX11_island_235 CF11 (by decide) fl_X11_54 rfl rfl h (fun t57 h => ?_)
  refine j_aload_n C dX11_island_238 rfl ?_
  refine j_getI C dX11_island_239 CF11 (by decide) fl_X11_133 rfl rfl h (fun t58 h => ?_)
  refine j_aload_n C dX11_island_242 rfl ?_
  refine j_iconst C dX11_island_243 rfl ?_
  refine j_bipush C dX11_island_244 rfl ?_
  obtain ⟨p59, ep59, h⟩ := bind_some h
  have qp59 := X11_number_ct ep59
  refine j_cVI C dX11_island_246 vl_X11_376 CF11 rfl qp59.1 qp59.2 (by omega) rfl rfl (Nat.le_of_ble_eq_true rfl) ?_
  refine j_iast C dX11_island_249 rfl h (fun m60 h => ?_)
  refine j_aload_n C dX11_island_250 rfl ?_
  refine j_getR C dX11_island_251 CF11 (by decide) fl_X11_57 rfl rfl h (fun t61 h => ?_)
  refine j_aload_n C dX11_island_254 rfl ?_
  refine j_getI C dX11_island_255 CF11 (by decide) fl_X11_133 rfl rfl h (fun t62 h => ?_)
  refine j_aload_n C dX11_island_258 rfl ?_
  refine j_iconst C dX11_island_259 rfl ?_
  refine j_bipush C dX11_island_260 rfl ?_
  obtain ⟨p63, ep63, h⟩ := bind_some h
  have qp63 := X11_number_ct ep63
  refine j_cVI C dX11_island_262 vl_X11_376 CF11 rfl qp63.1 qp63.2 (by omega) rfl rfl (Nat.le_of_ble_eq_true rfl) ?_
  refine j_iast C dX11_island_265 rfl h (fun m64 h => ?_)
  refine j_aload_n C dX11_island_266 rfl ?_
  refine j_iload_n C dX11_island_267 rfl ?_
  obtain ⟨p65, ep65, h⟩ := bind_some h
  have qp65 := X11_finishes_ct ep65
  refine j_cVV C dX11_island_268 vl_X11_429 CF11 rfl qp65.1 qp65.2 (by omega) rfl rfl (Nat.le_of_ble_eq_true rfl) ?_
  refine X11_island_L271_ok C hlv (fun z72 z73 m74 h => ?_) N h
  refine j_aload_n C dX11_island_300 rfl ?_
  refine j_aload_n C dX11_island_301 rfl ?_
  refine j_getI C dX11_island_302 CF11 (by decide) fl_X11_36 rfl rfl h (fun t75 h => ?_)
  refine j_putI C dX11_island_305 CF11 (by decide) fl_X11_42 rfl rfl rfl rfl h (fun m76 h => ?_)
  refine j_aload_n C dX11_island_308 rfl ?_
  refine j_aload_n C dX11_island_309 rfl ?_
  refine j_getI C dX11_island_310 CF11 (by decide) fl_X11_39 rfl rfl h (fun t77 h => ?_)
  refine j_putI C dX11_island_313 CF11 (by decide) fl_X11_45 rfl rfl rfl rfl h (fun m78 h => ?_)
  refine j_aload_n C dX11_island_316 rfl ?_
  refine j_getI C dX11_island_317 CF11 (by decide) fl_X11_36 rfl rfl h (fun t79 h => ?_)
  refine j_if_le C 329 dX11_island_320 rfl h (fun c84 h => ?_) (fun c84 h => ?_)
  · refine j_aload_n C dX11_island_329 rfl ?_
    refine j_aload_n C dX11_island_330 rfl ?_
    refine j_getI C dX11_island_331 CF11 (by decide) fl_X11_133 rfl rfl h (fun t80 h => ?_)
    refine j_putI C dX11_island_334 CF11 (by decide) fl_X11_51 rfl rfl rfl rfl h (fun m81 h => ?_)
    refine j_aload_n C dX11_island_337 rfl ?_
    obtain ⟨p82, ep82, h⟩ := bind_some h
    have qp82 := X11_begin_ct ep82
    refine j_cVV C dX11_island_338 vl_X11_435 CF11 rfl qp82.1 qp82.2 (by omega) rfl rfl (Nat.le_of_ble_eq_true rfl) ?_
    refine j_iload_n C dX11_island_341 rfl ?_
    have e := Option.some.inj h
    subst e
    exact j_ri C dX11_island_342 rfl rfl rfl
  · refine j_aload_n C dX11_island_323 rfl ?_
    refine j_iconst C dX11_island_324 rfl ?_
    obtain ⟨p83, ep83, h⟩ := bind_some h
    have qp83 := X11_refuses_ct ep83
    refine j_cVI C dX11_island_325 vl_X11_248 CF11 rfl qp83.1 qp83.2 (by omega) rfl rfl (Nat.le_of_ble_eq_true rfl) ?_
    have e := Option.some.inj h
    subst e
    exact j_ri C dX11_island_328 rfl rfl rfl
theorem dX11_letter_0 : decode cX11_letter 0 = .ok (.iload_n 1, 1) := by decide +kernel
theorem dX11_letter_1 : decode cX11_letter 1 = .ok (.iconst 0, 1) := by decide +kernel
theorem dX11_letter_2 : decode cX11_letter 2 = .ok (.iconst 1, 1) := by decide +kernel
theorem dX11_letter_3 : decode cX11_letter 3 = .ok (.invokestatic 334, 3) := by decide +kernel
theorem dX11_letter_6 : decode cX11_letter 6 = .ok (.ifCond .eq 42, 3) := by decide +kernel
theorem dX11_letter_9 : decode cX11_letter 9 = .ok (.iload_n 2, 1) := by decide +kernel
theorem dX11_letter_10 : decode cX11_letter 10 = .ok (.iconst 0, 1) := by decide +kernel
theorem dX11_letter_11 : decode cX11_letter 11 = .ok (.iload_n 1, 1) := by decide +kernel
theorem dX11_letter_12 : decode cX11_letter 12 = .ok (.ifCond .ne 15, 3) := by decide +kernel
theorem dX11_letter_15 : decode cX11_letter 15 = .ok (.aload_n 0, 1) := by decide +kernel
theorem dX11_letter_16 : decode cX11_letter 16 = .ok (.getfield 75, 3) := by decide +kernel
theorem dX11_letter_19 : decode cX11_letter 19 = .ok (.aload_n 0, 1) := by decide +kernel
theorem dX11_letter_20 : decode cX11_letter 20 = .ok (.getfield 51, 3) := by decide +kernel
theorem dX11_letter_23 : decode cX11_letter 23 = .ok (.iaload, 1) := by decide +kernel
theorem dX11_letter_24 : decode cX11_letter 24 = .ok (.goto 7, 3) := by decide +kernel
theorem dX11_letter_27 : decode cX11_letter 27 = .ok (.aload_n 0, 1) := by decide +kernel
theorem dX11_letter_28 : decode cX11_letter 28 = .ok (.invokevirtual 524, 3) := by decide +kernel
theorem dX11_letter_31 : decode cX11_letter 31 = .ok (.iconst 1, 1) := by decide +kernel
theorem dX11_letter_32 : decode cX11_letter 32 = .ok (.isub, 1) := by decide +kernel
theorem dX11_letter_33 : decode cX11_letter 33 = .ok (.invokestatic 334, 3) := by decide +kernel
theorem dX11_letter_36 : decode cX11_letter 36 = .ok (.ifCond .eq 12, 3) := by decide +kernel
theorem dX11_letter_39 : decode cX11_letter 39 = .ok (.iload_n 3, 1) := by decide +kernel
theorem dX11_letter_40 : decode cX11_letter 40 = .ok (.iconst 0, 1) := by decide +kernel
theorem dX11_letter_41 : decode cX11_letter 41 = .ok (.iconst 5, 1) := by decide +kernel
theorem dX11_letter_42 : decode cX11_letter 42 = .ok (.invokestatic 334, 3) := by decide +kernel
theorem dX11_letter_45 : decode cX11_letter 45 = .ok (.ifCond .ne 5, 3) := by decide +kernel
theorem dX11_letter_48 : decode cX11_letter 48 = .ok (.iconst (-1), 1) := by decide +kernel
theorem dX11_letter_49 : decode cX11_letter 49 = .ok (.ireturn, 1) := by decide +kernel
theorem dX11_letter_50 : decode cX11_letter 50 = .ok (.iload_n 1, 1) := by decide +kernel
theorem dX11_letter_51 : decode cX11_letter 51 = .ok (.ifCond .ne 19, 3) := by decide +kernel
theorem dX11_letter_54 : decode cX11_letter 54 = .ok (.aload_n 0, 1) := by decide +kernel
theorem dX11_letter_55 : decode cX11_letter 55 = .ok (.getfield 123, 3) := by decide +kernel
theorem dX11_letter_58 : decode cX11_letter 58 = .ok (.iconst 5, 1) := by decide +kernel
theorem dX11_letter_59 : decode cX11_letter 59 = .ok (.aload_n 0, 1) := by decide +kernel
theorem dX11_letter_60 : decode cX11_letter 60 = .ok (.getfield 51, 3) := by decide +kernel
theorem dX11_letter_63 : decode cX11_letter 63 = .ok (.imul, 1) := by decide +kernel
theorem dX11_letter_64 : decode cX11_letter 64 = .ok (.iload_n 2, 1) := by decide +kernel
theorem dX11_letter_65 : decode cX11_letter 65 = .ok (.iadd, 1) := by decide +kernel
theorem dX11_letter_66 : decode cX11_letter 66 = .ok (.laload, 1) := by decide +kernel
theorem dX11_letter_67 : decode cX11_letter 67 = .ok (.goto 21, 3) := by decide +kernel
theorem dX11_letter_70 : decode cX11_letter 70 = .ok (.aload_n 0, 1) := by decide +kernel
theorem dX11_letter_71 : decode cX11_letter 71 = .ok (.getfield 127, 3) := by decide +kernel
theorem dX11_letter_74 : decode cX11_letter 74 = .ok (.bipush 10, 2) := by decide +kernel
theorem dX11_letter_76 : decode cX11_letter 76 = .ok (.aload_n 0, 1) := by decide +kernel
theorem dX11_letter_77 : decode cX11_letter 77 = .ok (.getfield 51, 3) := by decide +kernel
theorem dX11_letter_80 : decode cX11_letter 80 = .ok (.imul, 1) := by decide +kernel
theorem dX11_letter_81 : decode cX11_letter 81 = .ok (.aload_n 0, 1) := by decide +kernel
theorem dX11_letter_82 : decode cX11_letter 82 = .ok (.iload_n 2, 1) := by decide +kernel
theorem dX11_letter_83 : decode cX11_letter 83 = .ok (.invokevirtual 527, 3) := by decide +kernel
theorem dX11_letter_86 : decode cX11_letter 86 = .ok (.iadd, 1) := by decide +kernel
theorem dX11_letter_87 : decode cX11_letter 87 = .ok (.laload, 1) := by decide +kernel
theorem dX11_letter_88 : decode cX11_letter 88 = .ok (.lstore 4, 2) := by decide +kernel
theorem dX11_letter_90 : decode cX11_letter 90 = .ok (.iconst 0, 1) := by decide +kernel
theorem dX11_letter_91 : decode cX11_letter 91 = .ok (.istore 6, 2) := by decide +kernel
theorem dX11_letter_93 : decode cX11_letter 93 = .ok (.lload 4, 2) := by decide +kernel
theorem dX11_letter_95 : decode cX11_letter 95 = .ok (.lstore 7, 2) := by decide +kernel
theorem dX11_letter_97 : decode cX11_letter 97 = .ok (.lload 7, 2) := by decide +kernel
theorem dX11_letter_99 : decode cX11_letter 99 = .ok (.lconst 0, 1) := by decide +kernel
theorem dX11_letter_100 : decode cX11_letter 100 = .ok (.lcmp, 1) := by decide +kernel
theorem dX11_letter_101 : decode cX11_letter 101 = .ok (.ifCond .le 16, 3) := by decide +kernel
theorem dX11_letter_104 : decode cX11_letter 104 = .ok (.iinc 6 1, 3) := by decide +kernel
theorem dX11_letter_107 : decode cX11_letter 107 = .ok (.lload 7, 2) := by decide +kernel
theorem dX11_letter_109 : decode cX11_letter 109 = .ok (.bipush 8, 2) := by decide +kernel
theorem dX11_letter_111 : decode cX11_letter 111 = .ok (.lshr, 1) := by decide +kernel
theorem dX11_letter_112 : decode cX11_letter 112 = .ok (.lstore 7, 2) := by decide +kernel
theorem dX11_letter_114 : decode cX11_letter 114 = .ok (.goto (-17), 3) := by decide +kernel
theorem dX11_letter_117 : decode cX11_letter 117 = .ok (.iload_n 3, 1) := by decide +kernel
theorem dX11_letter_118 : decode cX11_letter 118 = .ok (.iload 6, 2) := by decide +kernel
theorem dX11_letter_120 : decode cX11_letter 120 = .ok (.if_icmp .lt 7, 3) := by decide +kernel
theorem dX11_letter_123 : decode cX11_letter 123 = .ok (.iconst 0, 1) := by decide +kernel
theorem dX11_letter_124 : decode cX11_letter 124 = .ok (.goto 25, 3) := by decide +kernel
theorem dX11_letter_127 : decode cX11_letter 127 = .ok (.lload 4, 2) := by decide +kernel
theorem dX11_letter_129 : decode cX11_letter 129 = .ok (.bipush 8, 2) := by decide +kernel
theorem dX11_letter_131 : decode cX11_letter 131 = .ok (.iload 6, 2) := by decide +kernel
theorem dX11_letter_133 : decode cX11_letter 133 = .ok (.iconst 1, 1) := by decide +kernel
theorem dX11_letter_134 : decode cX11_letter 134 = .ok (.isub, 1) := by decide +kernel
theorem dX11_letter_135 : decode cX11_letter 135 = .ok (.iload_n 3, 1) := by decide +kernel
theorem dX11_letter_136 : decode cX11_letter 136 = .ok (.isub, 1) := by decide +kernel
theorem dX11_letter_137 : decode cX11_letter 137 = .ok (.imul, 1) := by decide +kernel
theorem dX11_letter_138 : decode cX11_letter 138 = .ok (.lshr, 1) := by decide +kernel
theorem dX11_letter_139 : decode cX11_letter 139 = .ok (.ldc2_w 530, 3) := by decide +kernel
theorem dX11_letter_142 : decode cX11_letter 142 = .ok (.land, 1) := by decide +kernel
theorem dX11_letter_143 : decode cX11_letter 143 = .ok (.l2i, 1) := by decide +kernel
theorem dX11_letter_144 : decode cX11_letter 144 = .ok (.bipush 97, 2) := by decide +kernel
theorem dX11_letter_146 : decode cX11_letter 146 = .ok (.isub, 1) := by decide +kernel
theorem dX11_letter_147 : decode cX11_letter 147 = .ok (.iconst 1, 1) := by decide +kernel
theorem dX11_letter_148 : decode cX11_letter 148 = .ok (.iadd, 1) := by decide +kernel
theorem dX11_letter_149 : decode cX11_letter 149 = .ok (.ireturn, 1) := by decide +kernel
set_option maxRecDepth 100000 in
set_option maxHeartbeats 4000000 in
theorem X11_letter_L97_bok {g : Gm} {w : Wd} (C : Cx g w RX11 cX11_letter 9 (some .int)) {lv : Nat} (hlv : 2 < lv) {N : Nat} {k117 : Int → Int → Int → Option Int} {r97 : Int → Int → Int → Int → Option Int} {l3 : Int} {l4 : Int} {l6 : Int} {l7 : Int} {m : Mem} {out : Int} (hk117 : ∀ l3 l4 l6, k117 l3 l4 l6 = some out → Jd g w 9 (rmL lv 0 0) (Qm g w (some (vI out)) m) 117 [none, none, none, some (vI l3), some (vL l4), none, some (vI l6), none, none] [] 312 m 0 0) (hr97 : ∀ l3 l4 l6 l7, r97 l3 l4 l6 l7 = some out → Jd g w 9 (rmL lv 0 0) (Qm g w (some (vI out)) m) 97 [none, none, none, some (vI l3), some (vL l4), none, some (vI l6), some (vL l7), none] [] 312 m 0 0) (h : X11_letter_L97_b N k117 m r97 l3 l4 l6 l7 = some out) : Jd g w 9 (rmL lv 0 0) (Qm g w (some (vI out)) m) 97 [none, none, none, some (vI l3), some (vL l4), none, some (vI l6), some (vL l7), none] [] 312 m 0 0 := by
  unfold X11_letter_L97_b at h
  refine j_lload C dX11_letter_97 rfl ?_
  refine j_lconst (v := 0) C dX11_letter_99 rfl rfl ?_
  refine j_lcmp C dX11_letter_100 ?_
  refine j_if_le C 117 dX11_letter_101 rfl h (fun c9 h => ?_) (fun c9 h => ?_)
  · refine j_mask [false, false, false, true, true, false, true, false, false] (ls' := [none, none, none, some (vI _), some (vL _), none, some (vI _), none, none]) rfl ?_
    exact hk117 _ _ _ h
  · refine j_iinc (ls' := [none, none, none, some (vI _), some (vL _), none, some (vI _), some (vL _), none]) C dX11_letter_104 rfl (by decide) rfl ?_
    refine j_lload C dX11_letter_107 rfl ?_
    refine j_bipush C dX11_letter_109 rfl ?_
    refine j_lshr C dX11_letter_111 ?_
    refine j_lstore (ls' := [none, none, none, some (vI _), some (vL _), none, some (vI _), some (vL _), none]) C dX11_letter_112 (by decide) rfl ?_
    refine j_goto C 97 dX11_letter_114 rfl ?_
    exact hr97 _ _ _ _ h
set_option maxRecDepth 100000 in
set_option maxHeartbeats 4000000 in
theorem X11_letter_L97_ok {g : Gm} {w : Wd} (C : Cx g w RX11 cX11_letter 9 (some .int)) {lv : Nat} (hlv : 2 < lv) {N : Nat} {k117 : Int → Int → Int → Option Int} {m : Mem} {out : Int} (hk117 : ∀ l3 l4 l6, k117 l3 l4 l6 = some out → Jd g w 9 (rmL lv 0 0) (Qm g w (some (vI out)) m) 117 [none, none, none, some (vI l3), some (vL l4), none, some (vI l6), none, none] [] 312 m 0 0) (f : Nat) : ∀ {l3 : Int} {l4 : Int} {l6 : Int} {l7 : Int}, X11_letter_L97 N k117 m f l3 l4 l6 l7 = some out → Jd g w 9 (rmL lv 0 0) (Qm g w (some (vI out)) m) 97 [none, none, none, some (vI l3), some (vL l4), none, some (vI l6), some (vL l7), none] [] 312 m 0 0 := by
  induction f with
  | zero => intro l3 l4 l6 l7 h; exact none_ne (α := Int) h
  | succ f ih => intro l3 l4 l6 l7 h; exact X11_letter_L97_bok C hlv hk117 (fun l3 l4 l6 l7 h => ih h) h
set_option maxRecDepth 100000 in
set_option maxHeartbeats 4000000 in
theorem X11_letter_J88_ok {g : Gm} {w : Wd} (C : Cx g w RX11 cX11_letter 9 (some .int)) {lv : Nat} (hlv : 2 < lv) {N : Nat} {l3 : Int} {s0 : Int} {m : Mem} {out : Int} (h : X11_letter_J88 N l3 s0 m = some out) : Jd g w 9 (rmL lv 0 0) (Qm g w (some (vI out)) m) 88 [none, none, none, some (vI l3), none, none, none, none, none] [vL s0] 312 m 0 0 := by
  unfold X11_letter_J88 at h
  refine j_lstore (ls' := [none, none, none, some (vI _), some (vL _), none, none, none, none]) C dX11_letter_88 (by decide) rfl ?_
  refine j_iconst C dX11_letter_90 rfl ?_
  refine j_istore (ls' := [none, none, none, some (vI _), some (vL _), none, some (vI _), none, none]) C dX11_letter_91 (by decide) rfl ?_
  refine j_lload C dX11_letter_93 rfl ?_
  refine j_lstore (ls' := [none, none, none, some (vI _), some (vL _), none, some (vI _), some (vL _), none]) C dX11_letter_95 (by decide) rfl ?_
  refine X11_letter_L97_ok C hlv (fun z10 z11 z12 h => ?_) N h
  refine j_iload_n C dX11_letter_117 rfl ?_
  refine j_iload C dX11_letter_118 rfl ?_
  refine j_icmp_lt C 127 dX11_letter_120 rfl h (fun c13 h => ?_) (fun c13 h => ?_)
  · refine j_lload C dX11_letter_127 rfl ?_
    refine j_bipush C dX11_letter_129 rfl ?_
    refine j_iload C dX11_letter_131 rfl ?_
    refine j_iconst C dX11_letter_133 rfl ?_
    refine j_isub C dX11_letter_134 ?_
    refine j_iload_n C dX11_letter_135 rfl ?_
    refine j_isub C dX11_letter_136 ?_
    refine j_imul C dX11_letter_137 ?_
    refine j_lshr C dX11_letter_138 ?_
    refine j_ldc2 (v := 255) C dX11_letter_139 k_X11_530 rfl rfl ?_
    refine j_land C dX11_letter_142 ?_
    refine j_l2i C dX11_letter_143 ?_
    refine j_bipush C dX11_letter_144 rfl ?_
    refine j_isub C dX11_letter_146 ?_
    refine j_iconst C dX11_letter_147 rfl ?_
    refine j_iadd C dX11_letter_148 ?_
    exact j_ri C dX11_letter_149 rfl (Option.some.inj h).symm rfl
  · refine j_iconst C dX11_letter_123 rfl ?_
    refine j_goto C 149 dX11_letter_124 rfl ?_
    exact j_ri C dX11_letter_149 rfl (Option.some.inj h).symm rfl
set_option maxRecDepth 100000 in
set_option maxHeartbeats 4000000 in
theorem X11_letter_J31_ok {g : Gm} {w : Wd} (C : Cx g w RX11 cX11_letter 9 (some .int)) {lv : Nat} (hlv : 2 < lv) {N : Nat} {l0 : Nat} {l1 : Int} {l2 : Int} {l3 : Int} {s0 : Int} {s1 : Int} {s2 : Int} {m : Mem} {out : Int} (h : X11_letter_J31 N l0 l1 l2 l3 s0 s1 s2 m = some out) : Jd g w 9 (rmL lv 0 0) (Qm g w (some (vI out)) m) 31 [some (vR l0), some (vI l1), some (vI l2), some (vI l3), none, none, none, none, none] [vI s2, vI s1, vI s0] 312 m 0 0 := by
  unfold X11_letter_J31 at h
  refine j_iconst C dX11_letter_31 rfl ?_
  refine j_isub C dX11_letter_32 ?_
  obtain ⟨p3, ep3, h⟩ := bind_some h
  have qp3 := X11_is_ct ep3
  refine j_cSI C dX11_letter_33 sl_X11_334 qp3 (by omega) rfl rfl (Nat.le_of_ble_eq_true rfl) ?_
  refine j_if_eq C 48 dX11_letter_36 rfl h (fun c19 h => ?_) (fun c19 h => ?_)
  · refine j_iconst C dX11_letter_48 rfl ?_
    exact j_ri C dX11_letter_49 rfl (Option.some.inj h).symm rfl
  · refine j_iload_n C dX11_letter_39 rfl ?_
    refine j_iconst C dX11_letter_40 rfl ?_
    refine j_iconst C dX11_letter_41 rfl ?_
    obtain ⟨p4, ep4, h⟩ := bind_some h
    have qp4 := X11_is_ct ep4
    refine j_cSI C dX11_letter_42 sl_X11_334 qp4 (by omega) rfl rfl (Nat.le_of_ble_eq_true rfl) ?_
    refine j_if_ne C 50 dX11_letter_45 rfl h (fun c18 h => ?_) (fun c18 h => ?_)
    · refine j_iload_n C dX11_letter_50 rfl ?_
      refine j_if_ne C 70 dX11_letter_51 rfl h (fun c17 h => ?_) (fun c17 h => ?_)
      · refine j_aload_n C dX11_letter_70 rfl ?_
        refine j_getR C dX11_letter_71 CF11 (by decide) fl_X11_127 rfl rfl h (fun t5 h => ?_)
        refine j_bipush C dX11_letter_74 rfl ?_
        refine j_aload_n C dX11_letter_76 rfl ?_
        refine j_getI C dX11_letter_77 CF11 (by decide) fl_X11_51 rfl rfl h (fun t6 h => ?_)
        refine j_imul C dX11_letter_80 ?_
        refine j_aload_n C dX11_letter_81 rfl ?_
        refine j_iload_n C dX11_letter_82 rfl ?_
        obtain ⟨p7, ep7, h⟩ := bind_some h
        have qp7 := X11_cloth_ct ep7
        refine j_cVI C dX11_letter_83 vl_X11_527 CF11 rfl qp7.1 qp7.2 (by omega) rfl rfl (Nat.le_of_ble_eq_true rfl) ?_
        refine j_iadd C dX11_letter_86 ?_
        refine j_lald C dX11_letter_87 rfl h (fun t8 h => ?_)
        refine j_mask [false, false, false, true, false, false, false, false, false] (ls' := [none, none, none, some (vI _), none, none, none, none, none]) rfl ?_
        exact X11_letter_J88_ok C hlv h
      · refine j_aload_n C dX11_letter_54 rfl ?_
        refine j_getR C dX11_letter_55 CF11 (by decide) fl_X11_123 rfl rfl h (fun t14 h => ?_)
        refine j_iconst C dX11_letter_58 rfl ?_
        refine j_aload_n C dX11_letter_59 rfl ?_
        refine j_getI C dX11_letter_60 CF11 (by decide) fl_X11_51 rfl rfl h (fun t15 h => ?_)
        refine j_imul C dX11_letter_63 ?_
        refine j_iload_n C dX11_letter_64 rfl ?_
        refine j_iadd C dX11_letter_65 ?_
        refine j_lald C dX11_letter_66 rfl h (fun t16 h => ?_)
        refine j_goto C 88 dX11_letter_67 rfl ?_
        refine j_mask [false, false, false, true, false, false, false, false, false] (ls' := [none, none, none, some (vI _), none, none, none, none, none]) rfl ?_
        exact X11_letter_J88_ok C hlv h
    · refine j_iconst C dX11_letter_48 rfl ?_
      exact j_ri C dX11_letter_49 rfl (Option.some.inj h).symm rfl
set_option maxRecDepth 100000 in
set_option maxHeartbeats 4000000 in
theorem X11_letter_ct {N : Nat} {l0 : Nat} {l1 : Int} {l2 : Int} {l3 : Int} {m : Mem} {out : Int} (h : X11_letter N l0 l1 l2 l3 m = some out) : shK l0 = 11 + 10 ∧ CT yX11_letter cX11_letter 9 (some .int) 3 0 0 [vR l0, vI l1, vI l2, vI l3] 312 m (some (vI out)) 312 m := by
  unfold X11_letter at h
  obtain ⟨hK, h⟩ := ite_some h
  have hlv : 2 < 3 := by decide
  refine ⟨hK, CT.of (by decide +kernel) rfl (Nat.le_of_ble_eq_true rfl) (ls := [some (vR l0), some (vI l1), some (vI l2), some (vI l3), none, none, none, none, none]) rfl fun g w C _ => ?_⟩
  refine j_iload_n C dX11_letter_0 rfl ?_
  refine j_iconst C dX11_letter_1 rfl ?_
  refine j_iconst C dX11_letter_2 rfl ?_
  obtain ⟨p1, ep1, h⟩ := bind_some h
  have qp1 := X11_is_ct ep1
  refine j_cSI C dX11_letter_3 sl_X11_334 qp1 (by omega) rfl rfl (Nat.le_of_ble_eq_true rfl) ?_
  refine j_if_eq C 48 dX11_letter_6 rfl h (fun c24 h => ?_) (fun c24 h => ?_)
  · refine j_iconst C dX11_letter_48 rfl ?_
    exact j_ri C dX11_letter_49 rfl (Option.some.inj h).symm rfl
  · refine j_iload_n C dX11_letter_9 rfl ?_
    refine j_iconst C dX11_letter_10 rfl ?_
    refine j_iload_n C dX11_letter_11 rfl ?_
    refine j_if_ne C 27 dX11_letter_12 rfl h (fun c23 h => ?_) (fun c23 h => ?_)
    · refine j_aload_n C dX11_letter_27 rfl ?_
      obtain ⟨p2, ep2, h⟩ := bind_some h
      have qp2 := X11_cloths_ct ep2
      refine j_cVI C dX11_letter_28 vl_X11_524 CF11 rfl qp2.1 qp2.2 (by omega) rfl rfl (Nat.le_of_ble_eq_true rfl) ?_
      exact X11_letter_J31_ok C hlv h
    · refine j_aload_n C dX11_letter_15 rfl ?_
      refine j_getR C dX11_letter_16 CF11 (by decide) fl_X11_75 rfl rfl h (fun t20 h => ?_)
      refine j_aload_n C dX11_letter_19 rfl ?_
      refine j_getI C dX11_letter_20 CF11 (by decide) fl_X11_51 rfl rfl h (fun t21 h => ?_)
      refine j_iald C dX11_letter_23 rfl h (fun t22 h => ?_)
      refine j_goto C 31 dX11_letter_24 rfl ?_
      exact X11_letter_J31_ok C hlv h
theorem dX11_linen_0 : decode cX11_linen 0 = .ok (.iload_n 1, 1) := by decide +kernel
theorem dX11_linen_1 : decode cX11_linen 1 = .ok (.ifCond .lt 12, 3) := by decide +kernel
theorem dX11_linen_4 : decode cX11_linen 4 = .ok (.iload_n 2, 1) := by decide +kernel
theorem dX11_linen_5 : decode cX11_linen 5 = .ok (.iconst 0, 1) := by decide +kernel
theorem dX11_linen_6 : decode cX11_linen 6 = .ok (.iconst 1, 1) := by decide +kernel
theorem dX11_linen_7 : decode cX11_linen 7 = .ok (.invokestatic 334, 3) := by decide +kernel
theorem dX11_linen_10 : decode cX11_linen 10 = .ok (.ifCond .ne 5, 3) := by decide +kernel
theorem dX11_linen_13 : decode cX11_linen 13 = .ok (.iconst (-1), 1) := by decide +kernel
theorem dX11_linen_14 : decode cX11_linen 14 = .ok (.ireturn, 1) := by decide +kernel
theorem dX11_linen_15 : decode cX11_linen 15 = .ok (.aload_n 0, 1) := by decide +kernel
theorem dX11_linen_16 : decode cX11_linen 16 = .ok (.invokevirtual 553, 3) := by decide +kernel
theorem dX11_linen_19 : decode cX11_linen 19 = .ok (.ifCond .eq 8, 3) := by decide +kernel
theorem dX11_linen_22 : decode cX11_linen 22 = .ok (.aload_n 0, 1) := by decide +kernel
theorem dX11_linen_23 : decode cX11_linen 23 = .ok (.iconst 0, 1) := by decide +kernel
theorem dX11_linen_24 : decode cX11_linen 24 = .ok (.invokevirtual 544, 3) := by decide +kernel
theorem dX11_linen_27 : decode cX11_linen 27 = .ok (.iconst (-1), 1) := by decide +kernel
theorem dX11_linen_28 : decode cX11_linen 28 = .ok (.istore_n 3, 1) := by decide +kernel
theorem dX11_linen_29 : decode cX11_linen 29 = .ok (.iconst 0, 1) := by decide +kernel
theorem dX11_linen_30 : decode cX11_linen 30 = .ok (.istore 4, 2) := by decide +kernel
theorem dX11_linen_32 : decode cX11_linen 32 = .ok (.iload 4, 2) := by decide +kernel
theorem dX11_linen_34 : decode cX11_linen 34 = .ok (.iconst 1, 1) := by decide +kernel
theorem dX11_linen_35 : decode cX11_linen 35 = .ok (.aload_n 0, 1) := by decide +kernel
theorem dX11_linen_36 : decode cX11_linen 36 = .ok (.invokevirtual 524, 3) := by decide +kernel
theorem dX11_linen_39 : decode cX11_linen 39 = .ok (.ishl, 1) := by decide +kernel
theorem dX11_linen_40 : decode cX11_linen 40 = .ok (.if_icmp .ge 86, 3) := by decide +kernel
theorem dX11_linen_43 : decode cX11_linen 43 = .ok (.iload_n 3, 1) := by decide +kernel
theorem dX11_linen_44 : decode cX11_linen 44 = .ok (.iconst (-1), 1) := by decide +kernel
theorem dX11_linen_45 : decode cX11_linen 45 = .ok (.if_icmp .eq 18, 3) := by decide +kernel
theorem dX11_linen_48 : decode cX11_linen 48 = .ok (.iload 4, 2) := by decide +kernel
theorem dX11_linen_50 : decode cX11_linen 50 = .ok (.invokestatic 592, 3) := by decide +kernel
theorem dX11_linen_53 : decode cX11_linen 53 = .ok (.iload_n 3, 1) := by decide +kernel
theorem dX11_linen_54 : decode cX11_linen 54 = .ok (.invokestatic 592, 3) := by decide +kernel
theorem dX11_linen_57 : decode cX11_linen 57 = .ok (.if_icmp .lt 6, 3) := by decide +kernel
theorem dX11_linen_60 : decode cX11_linen 60 = .ok (.goto 60, 3) := by decide +kernel
theorem dX11_linen_63 : decode cX11_linen 63 = .ok (.iconst 0, 1) := by decide +kernel
theorem dX11_linen_64 : decode cX11_linen 64 = .ok (.istore 5, 2) := by decide +kernel
theorem dX11_linen_66 : decode cX11_linen 66 = .ok (.iconst 0, 1) := by decide +kernel
theorem dX11_linen_67 : decode cX11_linen 67 = .ok (.istore 6, 2) := by decide +kernel
theorem dX11_linen_69 : decode cX11_linen 69 = .ok (.iload 6, 2) := by decide +kernel
theorem dX11_linen_71 : decode cX11_linen 71 = .ok (.aload_n 0, 1) := by decide +kernel
theorem dX11_linen_72 : decode cX11_linen 72 = .ok (.invokevirtual 524, 3) := by decide +kernel
theorem dX11_linen_75 : decode cX11_linen 75 = .ok (.if_icmp .ge 32, 3) := by decide +kernel
theorem dX11_linen_78 : decode cX11_linen 78 = .ok (.iload 5, 2) := by decide +kernel
theorem dX11_linen_80 : decode cX11_linen 80 = .ok (.iload 4, 2) := by decide +kernel
theorem dX11_linen_82 : decode cX11_linen 82 = .ok (.iload 6, 2) := by decide +kernel
theorem dX11_linen_84 : decode cX11_linen 84 = .ok (.ishr, 1) := by decide +kernel
theorem dX11_linen_85 : decode cX11_linen 85 = .ok (.iconst 1, 1) := by decide +kernel
theorem dX11_linen_86 : decode cX11_linen 86 = .ok (.iand, 1) := by decide +kernel
theorem dX11_linen_87 : decode cX11_linen 87 = .ok (.aload_n 0, 1) := by decide +kernel
theorem dX11_linen_88 : decode cX11_linen 88 = .ok (.aload_n 0, 1) := by decide +kernel
theorem dX11_linen_89 : decode cX11_linen 89 = .ok (.iload 6, 2) := by decide +kernel
theorem dX11_linen_91 : decode cX11_linen 91 = .ok (.invokevirtual 527, 3) := by decide +kernel
theorem dX11_linen_94 : decode cX11_linen 94 = .ok (.invokevirtual 518, 3) := by decide +kernel
theorem dX11_linen_97 : decode cX11_linen 97 = .ok (.imul, 1) := by decide +kernel
theorem dX11_linen_98 : decode cX11_linen 98 = .ok (.iadd, 1) := by decide +kernel
theorem dX11_linen_99 : decode cX11_linen 99 = .ok (.istore 5, 2) := by decide +kernel
theorem dX11_linen_101 : decode cX11_linen 101 = .ok (.iinc 6 1, 3) := by decide +kernel
theorem dX11_linen_104 : decode cX11_linen 104 = .ok (.goto (-35), 3) := by decide +kernel
theorem dX11_linen_107 : decode cX11_linen 107 = .ok (.iload 5, 2) := by decide +kernel
theorem dX11_linen_109 : decode cX11_linen 109 = .ok (.iload_n 1, 1) := by decide +kernel
theorem dX11_linen_110 : decode cX11_linen 110 = .ok (.if_icmp .lt 8, 3) := by decide +kernel
theorem dX11_linen_113 : decode cX11_linen 113 = .ok (.iload 4, 2) := by decide +kernel
theorem dX11_linen_115 : decode cX11_linen 115 = .ok (.goto 4, 3) := by decide +kernel
theorem dX11_linen_118 : decode cX11_linen 118 = .ok (.iload_n 3, 1) := by decide +kernel
theorem dX11_linen_119 : decode cX11_linen 119 = .ok (.istore_n 3, 1) := by decide +kernel
theorem dX11_linen_120 : decode cX11_linen 120 = .ok (.iinc 4 1, 3) := by decide +kernel
theorem dX11_linen_123 : decode cX11_linen 123 = .ok (.goto (-91), 3) := by decide +kernel
theorem dX11_linen_126 : decode cX11_linen 126 = .ok (.iload_n 3, 1) := by decide +kernel
theorem dX11_linen_127 : decode cX11_linen 127 = .ok (.iconst (-1), 1) := by decide +kernel
theorem dX11_linen_128 : decode cX11_linen 128 = .ok (.if_icmp .ne 7, 3) := by decide +kernel
theorem dX11_linen_131 : decode cX11_linen 131 = .ok (.iconst (-1), 1) := by decide +kernel
theorem dX11_linen_132 : decode cX11_linen 132 = .ok (.goto 15, 3) := by decide +kernel
theorem dX11_linen_135 : decode cX11_linen 135 = .ok (.iload_n 2, 1) := by decide +kernel
theorem dX11_linen_136 : decode cX11_linen 136 = .ok (.ifCond .ne 10, 3) := by decide +kernel
theorem dX11_linen_139 : decode cX11_linen 139 = .ok (.iload_n 3, 1) := by decide +kernel
theorem dX11_linen_140 : decode cX11_linen 140 = .ok (.invokestatic 592, 3) := by decide +kernel
theorem dX11_linen_143 : decode cX11_linen 143 = .ok (.goto 4, 3) := by decide +kernel
theorem dX11_linen_146 : decode cX11_linen 146 = .ok (.iload_n 3, 1) := by decide +kernel
theorem dX11_linen_147 : decode cX11_linen 147 = .ok (.ireturn, 1) := by decide +kernel
set_option maxRecDepth 100000 in
set_option maxHeartbeats 4000000 in
theorem X11_linen_L69_bok {g : Gm} {w : Wd} (C : Cx g w RX11 cX11_linen 7 (some .int)) {lv : Nat} (hlv : 8 < lv) {N : Nat} {k107 : Nat → Int → Int → Int → Int → Int → Mem → Option (Int × Mem)} {r69 : Nat → Int → Int → Int → Int → Int → Int → Mem → Option (Int × Mem)} {l0 : Nat} {l1 : Int} {l2 : Int} {l3 : Int} {l4 : Int} {l5 : Int} {l6 : Int} {m : Mem} {out : (Int × Mem)} (hk107 : ∀ l0 l1 l2 l3 l4 l5 m, k107 l0 l1 l2 l3 l4 l5 m = some out → Jd g w 7 (rmL lv 0 0) (Qm g w (some (vI out.1)) out.2) 107 [some (vR l0), some (vI l1), some (vI l2), some (vI l3), some (vI l4), some (vI l5), none] [] 312 m 0 0) (hr69 : ∀ l0 l1 l2 l3 l4 l5 l6 m, r69 l0 l1 l2 l3 l4 l5 l6 m = some out → Jd g w 7 (rmL lv 0 0) (Qm g w (some (vI out.1)) out.2) 69 [some (vR l0), some (vI l1), some (vI l2), some (vI l3), some (vI l4), some (vI l5), some (vI l6)] [] 312 m 0 0) (h : X11_linen_L69_b N k107 r69 l0 l1 l2 l3 l4 l5 l6 m = some out) : Jd g w 7 (rmL lv 0 0) (Qm g w (some (vI out.1)) out.2) 69 [some (vR l0), some (vI l1), some (vI l2), some (vI l3), some (vI l4), some (vI l5), some (vI l6)] [] 312 m 0 0 := by
  unfold X11_linen_L69_b at h
  refine j_iload C dX11_linen_69 rfl ?_
  refine j_aload_n C dX11_linen_71 rfl ?_
  obtain ⟨p4, ep4, h⟩ := bind_some h
  have qp4 := X11_cloths_ct ep4
  refine j_cVI C dX11_linen_72 vl_X11_524 CF11 rfl qp4.1 qp4.2 (by omega) rfl rfl (Nat.le_of_ble_eq_true rfl) ?_
  refine j_icmp_ge C 107 dX11_linen_75 rfl h (fun c7 h => ?_) (fun c7 h => ?_)
  · refine j_mask [true, true, true, true, true, true, false] (ls' := [some (vR _), some (vI _), some (vI _), some (vI _), some (vI _), some (vI _), none]) rfl ?_
    exact hk107 _ _ _ _ _ _ _ h
  · refine j_iload C dX11_linen_78 rfl ?_
    refine j_iload C dX11_linen_80 rfl ?_
    refine j_iload C dX11_linen_82 rfl ?_
    refine j_ishr C dX11_linen_84 ?_
    refine j_iconst C dX11_linen_85 rfl ?_
    refine j_iand C dX11_linen_86 ?_
    refine j_aload_n C dX11_linen_87 rfl ?_
    refine j_aload_n C dX11_linen_88 rfl ?_
    refine j_iload C dX11_linen_89 rfl ?_
    obtain ⟨p5, ep5, h⟩ := bind_some h
    have qp5 := X11_cloth_ct ep5
    refine j_cVI C dX11_linen_91 vl_X11_527 CF11 rfl qp5.1 qp5.2 (by omega) rfl rfl (Nat.le_of_ble_eq_true rfl) ?_
    obtain ⟨p6, ep6, h⟩ := bind_some h
    have qp6 := X11_dawnOf_ct ep6
    refine j_cVI C dX11_linen_94 vl_X11_518 CF11 rfl qp6.1 qp6.2 (by omega) rfl rfl (Nat.le_of_ble_eq_true rfl) ?_
    refine j_imul C dX11_linen_97 ?_
    refine j_iadd C dX11_linen_98 ?_
    refine j_istore (ls' := [some (vR _), some (vI _), some (vI _), some (vI _), some (vI _), some (vI _), some (vI _)]) C dX11_linen_99 (by decide) rfl ?_
    refine j_iinc (ls' := [some (vR _), some (vI _), some (vI _), some (vI _), some (vI _), some (vI _), some (vI _)]) C dX11_linen_101 rfl (by decide) rfl ?_
    refine j_goto C 69 dX11_linen_104 rfl ?_
    exact hr69 _ _ _ _ _ _ _ _ h
set_option maxRecDepth 100000 in
set_option maxHeartbeats 4000000 in
theorem X11_linen_L69_ok {g : Gm} {w : Wd} (C : Cx g w RX11 cX11_linen 7 (some .int)) {lv : Nat} (hlv : 8 < lv) {N : Nat} {k107 : Nat → Int → Int → Int → Int → Int → Mem → Option (Int × Mem)} {out : (Int × Mem)} (hk107 : ∀ l0 l1 l2 l3 l4 l5 m, k107 l0 l1 l2 l3 l4 l5 m = some out → Jd g w 7 (rmL lv 0 0) (Qm g w (some (vI out.1)) out.2) 107 [some (vR l0), some (vI l1), some (vI l2), some (vI l3), some (vI l4), some (vI l5), none] [] 312 m 0 0) (f : Nat) : ∀ {l0 : Nat} {l1 : Int} {l2 : Int} {l3 : Int} {l4 : Int} {l5 : Int} {l6 : Int} {m : Mem}, X11_linen_L69 N k107 f l0 l1 l2 l3 l4 l5 l6 m = some out → Jd g w 7 (rmL lv 0 0) (Qm g w (some (vI out.1)) out.2) 69 [some (vR l0), some (vI l1), some (vI l2), some (vI l3), some (vI l4), some (vI l5), some (vI l6)] [] 312 m 0 0 := by
  induction f with
  | zero => intro l0 l1 l2 l3 l4 l5 l6 m h; exact none_ne (α := (Int × Mem)) h
  | succ f ih => intro l0 l1 l2 l3 l4 l5 l6 m h; exact X11_linen_L69_bok C hlv hk107 (fun l0 l1 l2 l3 l4 l5 l6 m h => ih h) h
set_option maxRecDepth 100000 in
set_option maxHeartbeats 4000000 in
theorem X11_linen_J120_ok {g : Gm} {w : Wd} (C : Cx g w RX11 cX11_linen 7 (some .int)) {lv : Nat} (hlv : 8 < lv) {N : Nat} {r32 : Nat → Int → Int → Int → Int → Mem → Option (Int × Mem) } {l0 : Nat} {l1 : Int} {l2 : Int} {l3 : Int} {l4 : Int} {m : Mem} {out : (Int × Mem)} (hr32 : ∀ l0 l1 l2 l3 l4 m, r32 l0 l1 l2 l3 l4 m = some out → Jd g w 7 (rmL lv 0 0) (Qm g w (some (vI out.1)) out.2) 32 [some (vR l0), some (vI l1), some (vI l2), some (vI l3), some (vI l4), none, none] [] 312 m 0 0) (h : X11_linen_J120 N r32 l0 l1 l2 l3 l4 m = some out) : Jd g w 7 (rmL lv 0 0) (Qm g w (some (vI out.1)) out.2) 120 [some (vR l0), some (vI l1), some (vI l2), some (vI l3), some (vI l4), none, none] [] 312 m 0 0 := by
  unfold X11_linen_J120 at h
  refine j_iinc (ls' := [some (vR _), some (vI _), some (vI _), some (vI _), some (vI _), none, none]) C dX11_linen_120 rfl (by decide) rfl ?_
  refine j_goto C 32 dX11_linen_123 rfl ?_
  exact hr32 _ _ _ _ _ _ h
set_option maxRecDepth 100000 in
set_option maxHeartbeats 4000000 in
theorem X11_linen_J119_ok {g : Gm} {w : Wd} (C : Cx g w RX11 cX11_linen 7 (some .int)) {lv : Nat} (hlv : 8 < lv) {N : Nat} {r32 : Nat → Int → Int → Int → Int → Mem → Option (Int × Mem) } {l0 : Nat} {l1 : Int} {l2 : Int} {l4 : Int} {s0 : Int} {m : Mem} {out : (Int × Mem)} (hr32 : ∀ l0 l1 l2 l3 l4 m, r32 l0 l1 l2 l3 l4 m = some out → Jd g w 7 (rmL lv 0 0) (Qm g w (some (vI out.1)) out.2) 32 [some (vR l0), some (vI l1), some (vI l2), some (vI l3), some (vI l4), none, none] [] 312 m 0 0) (h : X11_linen_J119 N r32 l0 l1 l2 l4 s0 m = some out) : Jd g w 7 (rmL lv 0 0) (Qm g w (some (vI out.1)) out.2) 119 [some (vR l0), some (vI l1), some (vI l2), none, some (vI l4), none, none] [vI s0] 312 m 0 0 := by
  unfold X11_linen_J119 at h
  refine j_istore_n (ls' := [some (vR _), some (vI _), some (vI _), some (vI _), some (vI _), none, none]) C dX11_linen_119 (by decide) rfl ?_
  exact X11_linen_J120_ok C hlv hr32 h
set_option maxRecDepth 100000 in
set_option maxHeartbeats 4000000 in
theorem X11_linen_J63_ok {g : Gm} {w : Wd} (C : Cx g w RX11 cX11_linen 7 (some .int)) {lv : Nat} (hlv : 8 < lv) {N : Nat} {r32 : Nat → Int → Int → Int → Int → Mem → Option (Int × Mem) } {l0 : Nat} {l1 : Int} {l2 : Int} {l3 : Int} {l4 : Int} {m : Mem} {out : (Int × Mem)} (hr32 : ∀ l0 l1 l2 l3 l4 m, r32 l0 l1 l2 l3 l4 m = some out → Jd g w 7 (rmL lv 0 0) (Qm g w (some (vI out.1)) out.2) 32 [some (vR l0), some (vI l1), some (vI l2), some (vI l3), some (vI l4), none, none] [] 312 m 0 0) (h : X11_linen_J63 N r32 l0 l1 l2 l3 l4 m = some out) : Jd g w 7 (rmL lv 0 0) (Qm g w (some (vI out.1)) out.2) 63 [some (vR l0), some (vI l1), some (vI l2), some (vI l3), some (vI l4), none, none] [] 312 m 0 0 := by
  unfold X11_linen_J63 at h
  refine j_iconst C dX11_linen_63 rfl ?_
  refine j_istore (ls' := [some (vR _), some (vI _), some (vI _), some (vI _), some (vI _), some (vI _), none]) C dX11_linen_64 (by decide) rfl ?_
  refine j_iconst C dX11_linen_66 rfl ?_
  refine j_istore (ls' := [some (vR _), some (vI _), some (vI _), some (vI _), some (vI _), some (vI _), some (vI _)]) C dX11_linen_67 (by decide) rfl ?_
  refine X11_linen_L69_ok C hlv (fun z8 z9 z10 z11 z12 z13 m14 h => ?_) N h
  refine j_iload C dX11_linen_107 rfl ?_
  refine j_iload_n C dX11_linen_109 rfl ?_
  refine j_icmp_lt C 118 dX11_linen_110 rfl h (fun c15 h => ?_) (fun c15 h => ?_)
  · refine j_iload_n C dX11_linen_118 rfl ?_
    refine j_mask [true, true, true, false, true, false, false] (ls' := [some (vR _), some (vI _), some (vI _), none, some (vI _), none, none]) rfl ?_
    exact X11_linen_J119_ok C hlv hr32 h
  · refine j_iload C dX11_linen_113 rfl ?_
    refine j_goto C 119 dX11_linen_115 rfl ?_
    refine j_mask [true, true, true, false, true, false, false] (ls' := [some (vR _), some (vI _), some (vI _), none, some (vI _), none, none]) rfl ?_
    exact X11_linen_J119_ok C hlv hr32 h
set_option maxRecDepth 100000 in
set_option maxHeartbeats 4000000 in
theorem X11_linen_L32_bok {g : Gm} {w : Wd} (C : Cx g w RX11 cX11_linen 7 (some .int)) {lv : Nat} (hlv : 8 < lv) {N : Nat} {k126 : Int → Int → Mem → Option (Int × Mem)} {r32 : Nat → Int → Int → Int → Int → Mem → Option (Int × Mem)} {l0 : Nat} {l1 : Int} {l2 : Int} {l3 : Int} {l4 : Int} {m : Mem} {out : (Int × Mem)} (hk126 : ∀ l2 l3 m, k126 l2 l3 m = some out → Jd g w 7 (rmL lv 0 0) (Qm g w (some (vI out.1)) out.2) 126 [none, none, some (vI l2), some (vI l3), none, none, none] [] 312 m 0 0) (hr32 : ∀ l0 l1 l2 l3 l4 m, r32 l0 l1 l2 l3 l4 m = some out → Jd g w 7 (rmL lv 0 0) (Qm g w (some (vI out.1)) out.2) 32 [some (vR l0), some (vI l1), some (vI l2), some (vI l3), some (vI l4), none, none] [] 312 m 0 0) (h : X11_linen_L32_b N k126 r32 l0 l1 l2 l3 l4 m = some out) : Jd g w 7 (rmL lv 0 0) (Qm g w (some (vI out.1)) out.2) 32 [some (vR l0), some (vI l1), some (vI l2), some (vI l3), some (vI l4), none, none] [] 312 m 0 0 := by
  unfold X11_linen_L32_b at h
  refine j_iload C dX11_linen_32 rfl ?_
  refine j_iconst C dX11_linen_34 rfl ?_
  refine j_aload_n C dX11_linen_35 rfl ?_
  obtain ⟨p3, ep3, h⟩ := bind_some h
  have qp3 := X11_cloths_ct ep3
  refine j_cVI C dX11_linen_36 vl_X11_524 CF11 rfl qp3.1 qp3.2 (by omega) rfl rfl (Nat.le_of_ble_eq_true rfl) ?_
  refine j_ishl C dX11_linen_39 ?_
  refine j_icmp_ge C 126 dX11_linen_40 rfl h (fun c20 h => ?_) (fun c20 h => ?_)
  · refine j_mask [false, false, true, true, false, false, false] (ls' := [none, none, some (vI _), some (vI _), none, none, none]) rfl ?_
    exact hk126 _ _ _ h
  · refine j_iload_n C dX11_linen_43 rfl ?_
    refine j_iconst C dX11_linen_44 rfl ?_
    refine j_icmp_eq C 63 dX11_linen_45 rfl h (fun c19 h => ?_) (fun c19 h => ?_)
    · exact X11_linen_J63_ok C hlv hr32 h
    · refine j_iload C dX11_linen_48 rfl ?_
      obtain ⟨p16, ep16, h⟩ := bind_some h
      have qp16 := X11_bits_ct ep16
      refine j_cSI C dX11_linen_50 sl_X11_592 qp16 (by omega) rfl rfl (Nat.le_of_ble_eq_true rfl) ?_
      refine j_iload_n C dX11_linen_53 rfl ?_
      obtain ⟨p17, ep17, h⟩ := bind_some h
      have qp17 := X11_bits_ct ep17
      refine j_cSI C dX11_linen_54 sl_X11_592 qp17 (by omega) rfl rfl (Nat.le_of_ble_eq_true rfl) ?_
      refine j_icmp_lt C 63 dX11_linen_57 rfl h (fun c18 h => ?_) (fun c18 h => ?_)
      · exact X11_linen_J63_ok C hlv hr32 h
      · refine j_goto C 120 dX11_linen_60 rfl ?_
        exact X11_linen_J120_ok C hlv hr32 h
set_option maxRecDepth 100000 in
set_option maxHeartbeats 4000000 in
theorem X11_linen_L32_ok {g : Gm} {w : Wd} (C : Cx g w RX11 cX11_linen 7 (some .int)) {lv : Nat} (hlv : 8 < lv) {N : Nat} {k126 : Int → Int → Mem → Option (Int × Mem)} {out : (Int × Mem)} (hk126 : ∀ l2 l3 m, k126 l2 l3 m = some out → Jd g w 7 (rmL lv 0 0) (Qm g w (some (vI out.1)) out.2) 126 [none, none, some (vI l2), some (vI l3), none, none, none] [] 312 m 0 0) (f : Nat) : ∀ {l0 : Nat} {l1 : Int} {l2 : Int} {l3 : Int} {l4 : Int} {m : Mem}, X11_linen_L32 N k126 f l0 l1 l2 l3 l4 m = some out → Jd g w 7 (rmL lv 0 0) (Qm g w (some (vI out.1)) out.2) 32 [some (vR l0), some (vI l1), some (vI l2), some (vI l3), some (vI l4), none, none] [] 312 m 0 0 := by
  induction f with
  | zero => intro l0 l1 l2 l3 l4 m h; exact none_ne (α := (Int × Mem)) h
  | succ f ih => intro l0 l1 l2 l3 l4 m h; exact X11_linen_L32_bok C hlv hk126 (fun l0 l1 l2 l3 l4 m h => ih h) h
set_option maxRecDepth 100000 in
set_option maxHeartbeats 4000000 in
theorem X11_linen_J27_ok {g : Gm} {w : Wd} (C : Cx g w RX11 cX11_linen 7 (some .int)) {lv : Nat} (hlv : 8 < lv) {N : Nat} {l0 : Nat} {l1 : Int} {l2 : Int} {m : Mem} {out : (Int × Mem)} (h : X11_linen_J27 N l0 l1 l2 m = some out) : Jd g w 7 (rmL lv 0 0) (Qm g w (some (vI out.1)) out.2) 27 [some (vR l0), some (vI l1), some (vI l2), none, none, none, none] [] 312 m 0 0 := by
  unfold X11_linen_J27 at h
  refine j_iconst C dX11_linen_27 rfl ?_
  refine j_istore_n (ls' := [some (vR _), some (vI _), some (vI _), some (vI _), none, none, none]) C dX11_linen_28 (by decide) rfl ?_
  refine j_iconst C dX11_linen_29 rfl ?_
  refine j_istore (ls' := [some (vR _), some (vI _), some (vI _), some (vI _), some (vI _), none, none]) C dX11_linen_30 (by decide) rfl ?_
  refine X11_linen_L32_ok C hlv (fun z21 z22 m23 h => ?_) N h
  refine j_iload_n C dX11_linen_126 rfl ?_
  refine j_iconst C dX11_linen_127 rfl ?_
  refine j_icmp_ne C 135 dX11_linen_128 rfl h (fun c26 h => ?_) (fun c26 h => ?_)
  · refine j_iload_n C dX11_linen_135 rfl ?_
    refine j_if_ne C 146 dX11_linen_136 rfl h (fun c25 h => ?_) (fun c25 h => ?_)
    · refine j_iload_n C dX11_linen_146 rfl ?_
      have e := Option.some.inj h
      subst e
      exact j_ri C dX11_linen_147 rfl rfl rfl
    · refine j_iload_n C dX11_linen_139 rfl ?_
      obtain ⟨p24, ep24, h⟩ := bind_some h
      have qp24 := X11_bits_ct ep24
      refine j_cSI C dX11_linen_140 sl_X11_592 qp24 (by omega) rfl rfl (Nat.le_of_ble_eq_true rfl) ?_
      refine j_goto C 147 dX11_linen_143 rfl ?_
      have e := Option.some.inj h
      subst e
      exact j_ri C dX11_linen_147 rfl rfl rfl
  · refine j_iconst C dX11_linen_131 rfl ?_
    refine j_goto C 147 dX11_linen_132 rfl ?_
    have e := Option.some.inj h
    subst e
    exact j_ri C dX11_linen_147 rfl rfl rfl
set_option maxRecDepth 100000 in
set_option maxHeartbeats 4000000 in
theorem X11_linen_ct {N : Nat} {l0 : Nat} {l1 : Int} {l2 : Int} {m : Mem} {out : (Int × Mem)} (h : X11_linen N l0 l1 l2 m = some out) : shK l0 = 11 + 10 ∧ CT yX11_linen cX11_linen 7 (some .int) 9 0 0 [vR l0, vI l1, vI l2] 312 m (some (vI out.1)) 312 out.2 := by
  unfold X11_linen at h
  obtain ⟨hK, h⟩ := ite_some h
  have hlv : 8 < 9 := by decide
  refine ⟨hK, CT.of (by decide +kernel) rfl (Nat.le_of_ble_eq_true rfl) (ls := [some (vR l0), some (vI l1), some (vI l2), none, none, none, none]) rfl fun g w C _ => ?_⟩
  refine j_iload_n C dX11_linen_0 rfl ?_
  refine j_if_lt C 13 dX11_linen_1 rfl h (fun c30 h => ?_) (fun c30 h => ?_)
  · refine j_iconst C dX11_linen_13 rfl ?_
    have e := Option.some.inj h
    subst e
    exact j_ri C dX11_linen_14 rfl rfl rfl
  · refine j_iload_n C dX11_linen_4 rfl ?_
    refine j_iconst C dX11_linen_5 rfl ?_
    refine j_iconst C dX11_linen_6 rfl ?_
    obtain ⟨p1, ep1, h⟩ := bind_some h
    have qp1 := X11_is_ct ep1
    refine j_cSI C dX11_linen_7 sl_X11_334 qp1 (by omega) rfl rfl (Nat.le_of_ble_eq_true rfl) ?_
    refine j_if_ne C 15 dX11_linen_10 rfl h (fun c29 h => ?_) (fun c29 h => ?_)
    · refine j_aload_n C dX11_linen_15 rfl ?_
      obtain ⟨p2, ep2, h⟩ := bind_some h
      have qp2 := X11_isIsland_ct ep2
      refine j_cVI C dX11_linen_16 vl_X11_553 CF11 rfl qp2.1 qp2.2 (by omega) rfl rfl (Nat.le_of_ble_eq_true rfl) ?_
      refine j_if_eq C 27 dX11_linen_19 rfl h (fun c28 h => ?_) (fun c28 h => ?_)
      · exact X11_linen_J27_ok C hlv h
      · refine j_aload_n C dX11_linen_22 rfl ?_
        refine j_iconst C dX11_linen_23 rfl ?_
        obtain ⟨p27, ep27, h⟩ := bind_some h
        have qp27 := X11_nightAsTold_ct ep27
        refine j_cVV C dX11_linen_24 vl_X11_544 CF11 rfl qp27.1 qp27.2 (by omega) rfl rfl (Nat.le_of_ble_eq_true rfl) ?_
        exact X11_linen_J27_ok C hlv h
    · refine j_iconst C dX11_linen_13 rfl ?_
      have e := Option.some.inj h
      subst e
      exact j_ri C dX11_linen_14 rfl rfl rfl
theorem dX11_nextOrder_0 : decode cX11_nextOrder 0 = .ok (.iload_n 1, 1) := by decide +kernel
theorem dX11_nextOrder_1 : decode cX11_nextOrder 1 = .ok (.iconst 2, 1) := by decide +kernel
theorem dX11_nextOrder_2 : decode cX11_nextOrder 2 = .ok (.isub, 1) := by decide +kernel
theorem dX11_nextOrder_3 : decode cX11_nextOrder 3 = .ok (.istore_n 2, 1) := by decide +kernel
theorem dX11_nextOrder_4 : decode cX11_nextOrder 4 = .ok (.iload_n 2, 1) := by decide +kernel
theorem dX11_nextOrder_5 : decode cX11_nextOrder 5 = .ok (.ifCond .lt 26, 3) := by decide +kernel
theorem dX11_nextOrder_8 : decode cX11_nextOrder 8 = .ok (.aload_n 0, 1) := by decide +kernel
theorem dX11_nextOrder_9 : decode cX11_nextOrder 9 = .ok (.getfield 215, 3) := by decide +kernel
theorem dX11_nextOrder_12 : decode cX11_nextOrder 12 = .ok (.iload_n 2, 1) := by decide +kernel
theorem dX11_nextOrder_13 : decode cX11_nextOrder 13 = .ok (.iaload, 1) := by decide +kernel
theorem dX11_nextOrder_14 : decode cX11_nextOrder 14 = .ok (.aload_n 0, 1) := by decide +kernel
theorem dX11_nextOrder_15 : decode cX11_nextOrder 15 = .ok (.getfield 215, 3) := by decide +kernel
theorem dX11_nextOrder_18 : decode cX11_nextOrder 18 = .ok (.iload_n 2, 1) := by decide +kernel
theorem dX11_nextOrder_19 : decode cX11_nextOrder 19 = .ok (.iconst 1, 1) := by decide +kernel
theorem dX11_nextOrder_20 : decode cX11_nextOrder 20 = .ok (.iadd, 1) := by decide +kernel
theorem dX11_nextOrder_21 : decode cX11_nextOrder 21 = .ok (.iaload, 1) := by decide +kernel
theorem dX11_nextOrder_22 : decode cX11_nextOrder 22 = .ok (.if_icmp .le 9, 3) := by decide +kernel
theorem dX11_nextOrder_25 : decode cX11_nextOrder 25 = .ok (.iinc 2 (-1), 3) := by decide +kernel
theorem dX11_nextOrder_28 : decode cX11_nextOrder 28 = .ok (.goto (-24), 3) := by decide +kernel
theorem dX11_nextOrder_31 : decode cX11_nextOrder 31 = .ok (.iload_n 2, 1) := by decide +kernel
theorem dX11_nextOrder_32 : decode cX11_nextOrder 32 = .ok (.ifCond .ge 5, 3) := by decide +kernel
theorem dX11_nextOrder_35 : decode cX11_nextOrder 35 = .ok (.iconst 0, 1) := by decide +kernel
theorem dX11_nextOrder_36 : decode cX11_nextOrder 36 = .ok (.ireturn, 1) := by decide +kernel
theorem dX11_nextOrder_37 : decode cX11_nextOrder 37 = .ok (.iload_n 1, 1) := by decide +kernel
theorem dX11_nextOrder_38 : decode cX11_nextOrder 38 = .ok (.iconst 1, 1) := by decide +kernel
theorem dX11_nextOrder_39 : decode cX11_nextOrder 39 = .ok (.isub, 1) := by decide +kernel
theorem dX11_nextOrder_40 : decode cX11_nextOrder 40 = .ok (.istore_n 3, 1) := by decide +kernel
theorem dX11_nextOrder_41 : decode cX11_nextOrder 41 = .ok (.aload_n 0, 1) := by decide +kernel
theorem dX11_nextOrder_42 : decode cX11_nextOrder 42 = .ok (.getfield 215, 3) := by decide +kernel
theorem dX11_nextOrder_45 : decode cX11_nextOrder 45 = .ok (.iload_n 3, 1) := by decide +kernel
theorem dX11_nextOrder_46 : decode cX11_nextOrder 46 = .ok (.iaload, 1) := by decide +kernel
theorem dX11_nextOrder_47 : decode cX11_nextOrder 47 = .ok (.aload_n 0, 1) := by decide +kernel
theorem dX11_nextOrder_48 : decode cX11_nextOrder 48 = .ok (.getfield 215, 3) := by decide +kernel
theorem dX11_nextOrder_51 : decode cX11_nextOrder 51 = .ok (.iload_n 2, 1) := by decide +kernel
theorem dX11_nextOrder_52 : decode cX11_nextOrder 52 = .ok (.iaload, 1) := by decide +kernel
theorem dX11_nextOrder_53 : decode cX11_nextOrder 53 = .ok (.if_icmp .ge 9, 3) := by decide +kernel
theorem dX11_nextOrder_56 : decode cX11_nextOrder 56 = .ok (.iinc 3 (-1), 3) := by decide +kernel
theorem dX11_nextOrder_59 : decode cX11_nextOrder 59 = .ok (.goto (-18), 3) := by decide +kernel
theorem dX11_nextOrder_62 : decode cX11_nextOrder 62 = .ok (.aload_n 0, 1) := by decide +kernel
theorem dX11_nextOrder_63 : decode cX11_nextOrder 63 = .ok (.getfield 215, 3) := by decide +kernel
theorem dX11_nextOrder_66 : decode cX11_nextOrder 66 = .ok (.iload_n 2, 1) := by decide +kernel
theorem dX11_nextOrder_67 : decode cX11_nextOrder 67 = .ok (.iaload, 1) := by decide +kernel
theorem dX11_nextOrder_68 : decode cX11_nextOrder 68 = .ok (.istore 4, 2) := by decide +kernel
theorem dX11_nextOrder_70 : decode cX11_nextOrder 70 = .ok (.aload_n 0, 1) := by decide +kernel
theorem dX11_nextOrder_71 : decode cX11_nextOrder 71 = .ok (.getfield 215, 3) := by decide +kernel
theorem dX11_nextOrder_74 : decode cX11_nextOrder 74 = .ok (.iload_n 2, 1) := by decide +kernel
theorem dX11_nextOrder_75 : decode cX11_nextOrder 75 = .ok (.aload_n 0, 1) := by decide +kernel
theorem dX11_nextOrder_76 : decode cX11_nextOrder 76 = .ok (.getfield 215, 3) := by decide +kernel
theorem dX11_nextOrder_79 : decode cX11_nextOrder 79 = .ok (.iload_n 3, 1) := by decide +kernel
theorem dX11_nextOrder_80 : decode cX11_nextOrder 80 = .ok (.iaload, 1) := by decide +kernel
theorem dX11_nextOrder_81 : decode cX11_nextOrder 81 = .ok (.iastore, 1) := by decide +kernel
theorem dX11_nextOrder_82 : decode cX11_nextOrder 82 = .ok (.aload_n 0, 1) := by decide +kernel
theorem dX11_nextOrder_83 : decode cX11_nextOrder 83 = .ok (.getfield 215, 3) := by decide +kernel
theorem dX11_nextOrder_86 : decode cX11_nextOrder 86 = .ok (.iload_n 3, 1) := by decide +kernel
theorem dX11_nextOrder_87 : decode cX11_nextOrder 87 = .ok (.iload 4, 2) := by decide +kernel
theorem dX11_nextOrder_89 : decode cX11_nextOrder 89 = .ok (.iastore, 1) := by decide +kernel
theorem dX11_nextOrder_90 : decode cX11_nextOrder 90 = .ok (.iconst 1, 1) := by decide +kernel
theorem dX11_nextOrder_91 : decode cX11_nextOrder 91 = .ok (.istore 5, 2) := by decide +kernel
theorem dX11_nextOrder_93 : decode cX11_nextOrder 93 = .ok (.iload_n 2, 1) := by decide +kernel
theorem dX11_nextOrder_94 : decode cX11_nextOrder 94 = .ok (.iload 5, 2) := by decide +kernel
theorem dX11_nextOrder_96 : decode cX11_nextOrder 96 = .ok (.iadd, 1) := by decide +kernel
theorem dX11_nextOrder_97 : decode cX11_nextOrder 97 = .ok (.iload_n 1, 1) := by decide +kernel
theorem dX11_nextOrder_98 : decode cX11_nextOrder 98 = .ok (.iload 5, 2) := by decide +kernel
theorem dX11_nextOrder_100 : decode cX11_nextOrder 100 = .ok (.isub, 1) := by decide +kernel
theorem dX11_nextOrder_101 : decode cX11_nextOrder 101 = .ok (.if_icmp .ge 49, 3) := by decide +kernel
theorem dX11_nextOrder_104 : decode cX11_nextOrder 104 = .ok (.aload_n 0, 1) := by decide +kernel
theorem dX11_nextOrder_105 : decode cX11_nextOrder 105 = .ok (.getfield 215, 3) := by decide +kernel
theorem dX11_nextOrder_108 : decode cX11_nextOrder 108 = .ok (.iload_n 2, 1) := by decide +kernel
theorem dX11_nextOrder_109 : decode cX11_nextOrder 109 = .ok (.iload 5, 2) := by decide +kernel
theorem dX11_nextOrder_111 : decode cX11_nextOrder 111 = .ok (.iadd, 1) := by decide +kernel
theorem dX11_nextOrder_112 : decode cX11_nextOrder 112 = .ok (.iaload, 1) := by decide +kernel
theorem dX11_nextOrder_113 : decode cX11_nextOrder 113 = .ok (.istore 6, 2) := by decide +kernel
theorem dX11_nextOrder_115 : decode cX11_nextOrder 115 = .ok (.aload_n 0, 1) := by decide +kernel
theorem dX11_nextOrder_116 : decode cX11_nextOrder 116 = .ok (.getfield 215, 3) := by decide +kernel
theorem dX11_nextOrder_119 : decode cX11_nextOrder 119 = .ok (.iload_n 2, 1) := by decide +kernel
theorem dX11_nextOrder_120 : decode cX11_nextOrder 120 = .ok (.iload 5, 2) := by decide +kernel
theorem dX11_nextOrder_122 : decode cX11_nextOrder 122 = .ok (.iadd, 1) := by decide +kernel
theorem dX11_nextOrder_123 : decode cX11_nextOrder 123 = .ok (.aload_n 0, 1) := by decide +kernel
theorem dX11_nextOrder_124 : decode cX11_nextOrder 124 = .ok (.getfield 215, 3) := by decide +kernel
theorem dX11_nextOrder_127 : decode cX11_nextOrder 127 = .ok (.iload_n 1, 1) := by decide +kernel
theorem dX11_nextOrder_128 : decode cX11_nextOrder 128 = .ok (.iload 5, 2) := by decide +kernel
theorem dX11_nextOrder_130 : decode cX11_nextOrder 130 = .ok (.isub, 1) := by decide +kernel
theorem dX11_nextOrder_131 : decode cX11_nextOrder 131 = .ok (.iaload, 1) := by decide +kernel
theorem dX11_nextOrder_132 : decode cX11_nextOrder 132 = .ok (.iastore, 1) := by decide +kernel
theorem dX11_nextOrder_133 : decode cX11_nextOrder 133 = .ok (.aload_n 0, 1) := by decide +kernel
theorem dX11_nextOrder_134 : decode cX11_nextOrder 134 = .ok (.getfield 215, 3) := by decide +kernel
theorem dX11_nextOrder_137 : decode cX11_nextOrder 137 = .ok (.iload_n 1, 1) := by decide +kernel
theorem dX11_nextOrder_138 : decode cX11_nextOrder 138 = .ok (.iload 5, 2) := by decide +kernel
theorem dX11_nextOrder_140 : decode cX11_nextOrder 140 = .ok (.isub, 1) := by decide +kernel
theorem dX11_nextOrder_141 : decode cX11_nextOrder 141 = .ok (.iload 6, 2) := by decide +kernel
theorem dX11_nextOrder_143 : decode cX11_nextOrder 143 = .ok (.iastore, 1) := by decide +kernel
theorem dX11_nextOrder_144 : decode cX11_nextOrder 144 = .ok (.iinc 5 1, 3) := by decide +kernel
theorem dX11_nextOrder_147 : decode cX11_nextOrder 147 = .ok (.goto (-54), 3) := by decide +kernel
theorem dX11_nextOrder_150 : decode cX11_nextOrder 150 = .ok (.iconst 1, 1) := by decide +kernel
theorem dX11_nextOrder_151 : decode cX11_nextOrder 151 = .ok (.ireturn, 1) := by decide +kernel
set_option maxRecDepth 100000 in
set_option maxHeartbeats 4000000 in
theorem X11_nextOrder_L4_bok {g : Gm} {w : Wd} (C : Cx g w RX11 cX11_nextOrder 7 (some .boolean)) {lv : Nat} (hlv : 0 < lv) {N : Nat} {k31 : Nat → Int → Int → Mem → Option (Int × Mem)} {r4 : Nat → Int → Int → Mem → Option (Int × Mem)} {l0 : Nat} {l1 : Int} {l2 : Int} {m : Mem} {out : (Int × Mem)} (hk31 : ∀ l0 l1 l2 m, k31 l0 l1 l2 m = some out → Jd g w 7 (rmL lv 0 0) (Qm g w (some (vI out.1)) out.2) 31 [some (vR l0), some (vI l1), some (vI l2), none, none, none, none] [] 312 m 0 0) (hr4 : ∀ l0 l1 l2 m, r4 l0 l1 l2 m = some out → Jd g w 7 (rmL lv 0 0) (Qm g w (some (vI out.1)) out.2) 4 [some (vR l0), some (vI l1), some (vI l2), none, none, none, none] [] 312 m 0 0) (h : X11_nextOrder_L4_b N k31 r4 l0 l1 l2 m = some out) : Jd g w 7 (rmL lv 0 0) (Qm g w (some (vI out.1)) out.2) 4 [some (vR l0), some (vI l1), some (vI l2), none, none, none, none] [] 312 m 0 0 := by
  unfold X11_nextOrder_L4_b at h
  refine j_iload_n C dX11_nextOrder_4 rfl ?_
  refine j_if_lt C 31 dX11_nextOrder_5 rfl h (fun c6 h => ?_) (fun c6 h => ?_)
  · exact hk31 _ _ _ _ h
  · refine j_aload_n C dX11_nextOrder_8 rfl ?_
    refine j_getR C dX11_nextOrder_9 CF11 (by decide) fl_X11_215 rfl rfl h (fun t1 h => ?_)
    refine j_iload_n C dX11_nextOrder_12 rfl ?_
    refine j_iald C dX11_nextOrder_13 rfl h (fun t2 h => ?_)
    refine j_aload_n C dX11_nextOrder_14 rfl ?_
    refine j_getR C dX11_nextOrder_15 CF11 (by decide) fl_X11_215 rfl rfl h (fun t3 h => ?_)
    refine j_iload_n C dX11_nextOrder_18 rfl ?_
    refine j_iconst C dX11_nextOrder_19 rfl ?_
    refine j_iadd C dX11_nextOrder_20 ?_
    refine j_iald C dX11_nextOrder_21 rfl h (fun t4 h => ?_)
    refine j_icmp_le C 31 dX11_nextOrder_22 rfl h (fun c5 h => ?_) (fun c5 h => ?_)
    · exact hk31 _ _ _ _ h
    · refine j_iinc (ls' := [some (vR _), some (vI _), some (vI _), none, none, none, none]) C dX11_nextOrder_25 rfl (by decide) rfl ?_
      refine j_goto C 4 dX11_nextOrder_28 rfl ?_
      exact hr4 _ _ _ _ h
set_option maxRecDepth 100000 in
set_option maxHeartbeats 4000000 in
theorem X11_nextOrder_L4_ok {g : Gm} {w : Wd} (C : Cx g w RX11 cX11_nextOrder 7 (some .boolean)) {lv : Nat} (hlv : 0 < lv) {N : Nat} {k31 : Nat → Int → Int → Mem → Option (Int × Mem)} {out : (Int × Mem)} (hk31 : ∀ l0 l1 l2 m, k31 l0 l1 l2 m = some out → Jd g w 7 (rmL lv 0 0) (Qm g w (some (vI out.1)) out.2) 31 [some (vR l0), some (vI l1), some (vI l2), none, none, none, none] [] 312 m 0 0) (f : Nat) : ∀ {l0 : Nat} {l1 : Int} {l2 : Int} {m : Mem}, X11_nextOrder_L4 N k31 f l0 l1 l2 m = some out → Jd g w 7 (rmL lv 0 0) (Qm g w (some (vI out.1)) out.2) 4 [some (vR l0), some (vI l1), some (vI l2), none, none, none, none] [] 312 m 0 0 := by
  induction f with
  | zero => intro l0 l1 l2 m h; exact none_ne (α := (Int × Mem)) h
  | succ f ih => intro l0 l1 l2 m h; exact X11_nextOrder_L4_bok C hlv hk31 (fun l0 l1 l2 m h => ih h) h
set_option maxRecDepth 100000 in
set_option maxHeartbeats 4000000 in
theorem X11_nextOrder_L41_bok {g : Gm} {w : Wd} (C : Cx g w RX11 cX11_nextOrder 7 (some .boolean)) {lv : Nat} (hlv : 0 < lv) {N : Nat} {k62 : Nat → Int → Int → Int → Mem → Option (Int × Mem)} {r41 : Nat → Int → Int → Int → Mem → Option (Int × Mem)} {l0 : Nat} {l1 : Int} {l2 : Int} {l3 : Int} {m : Mem} {out : (Int × Mem)} (hk62 : ∀ l0 l1 l2 l3 m, k62 l0 l1 l2 l3 m = some out → Jd g w 7 (rmL lv 0 0) (Qm g w (some (vI out.1)) out.2) 62 [some (vR l0), some (vI l1), some (vI l2), some (vI l3), none, none, none] [] 312 m 0 0) (hr41 : ∀ l0 l1 l2 l3 m, r41 l0 l1 l2 l3 m = some out → Jd g w 7 (rmL lv 0 0) (Qm g w (some (vI out.1)) out.2) 41 [some (vR l0), some (vI l1), some (vI l2), some (vI l3), none, none, none] [] 312 m 0 0) (h : X11_nextOrder_L41_b N k62 r41 l0 l1 l2 l3 m = some out) : Jd g w 7 (rmL lv 0 0) (Qm g w (some (vI out.1)) out.2) 41 [some (vR l0), some (vI l1), some (vI l2), some (vI l3), none, none, none] [] 312 m 0 0 := by
  unfold X11_nextOrder_L41_b at h
  refine j_aload_n C dX11_nextOrder_41 rfl ?_
  refine j_getR C dX11_nextOrder_42 CF11 (by decide) fl_X11_215 rfl rfl h (fun t11 h => ?_)
  refine j_iload_n C dX11_nextOrder_45 rfl ?_
  refine j_iald C dX11_nextOrder_46 rfl h (fun t12 h => ?_)
  refine j_aload_n C dX11_nextOrder_47 rfl ?_
  refine j_getR C dX11_nextOrder_48 CF11 (by decide) fl_X11_215 rfl rfl h (fun t13 h => ?_)
  refine j_iload_n C dX11_nextOrder_51 rfl ?_
  refine j_iald C dX11_nextOrder_52 rfl h (fun t14 h => ?_)
  refine j_icmp_ge C 62 dX11_nextOrder_53 rfl h (fun c15 h => ?_) (fun c15 h => ?_)
  · exact hk62 _ _ _ _ _ h
  · refine j_iinc (ls' := [some (vR _), some (vI _), some (vI _), some (vI _), none, none, none]) C dX11_nextOrder_56 rfl (by decide) rfl ?_
    refine j_goto C 41 dX11_nextOrder_59 rfl ?_
    exact hr41 _ _ _ _ _ h
set_option maxRecDepth 100000 in
set_option maxHeartbeats 4000000 in
theorem X11_nextOrder_L41_ok {g : Gm} {w : Wd} (C : Cx g w RX11 cX11_nextOrder 7 (some .boolean)) {lv : Nat} (hlv : 0 < lv) {N : Nat} {k62 : Nat → Int → Int → Int → Mem → Option (Int × Mem)} {out : (Int × Mem)} (hk62 : ∀ l0 l1 l2 l3 m, k62 l0 l1 l2 l3 m = some out → Jd g w 7 (rmL lv 0 0) (Qm g w (some (vI out.1)) out.2) 62 [some (vR l0), some (vI l1), some (vI l2), some (vI l3), none, none, none] [] 312 m 0 0) (f : Nat) : ∀ {l0 : Nat} {l1 : Int} {l2 : Int} {l3 : Int} {m : Mem}, X11_nextOrder_L41 N k62 f l0 l1 l2 l3 m = some out → Jd g w 7 (rmL lv 0 0) (Qm g w (some (vI out.1)) out.2) 41 [some (vR l0), some (vI l1), some (vI l2), some (vI l3), none, none, none] [] 312 m 0 0 := by
  induction f with
  | zero => intro l0 l1 l2 l3 m h; exact none_ne (α := (Int × Mem)) h
  | succ f ih => intro l0 l1 l2 l3 m h; exact X11_nextOrder_L41_bok C hlv hk62 (fun l0 l1 l2 l3 m h => ih h) h
set_option maxRecDepth 100000 in
set_option maxHeartbeats 4000000 in
theorem X11_nextOrder_L93_bok {g : Gm} {w : Wd} (C : Cx g w RX11 cX11_nextOrder 7 (some .boolean)) {lv : Nat} (hlv : 0 < lv) {N : Nat} {r93 : Nat → Int → Int → Int → Mem → Option (Int × Mem)} {l0 : Nat} {l1 : Int} {l2 : Int} {l5 : Int} {m : Mem} {out : (Int × Mem)} (hr93 : ∀ l0 l1 l2 l5 m, r93 l0 l1 l2 l5 m = some out → Jd g w 7 (rmL lv 0 0) (Qm g w (some (vI out.1)) out.2) 93 [some (vR l0), some (vI l1), some (vI l2), none, none, some (vI l5), none] [] 312 m 0 0) (h : X11_nextOrder_L93_b N r93 l0 l1 l2 l5 m = some out) : Jd g w 7 (rmL lv 0 0) (Qm g w (some (vI out.1)) out.2) 93 [some (vR l0), some (vI l1), some (vI l2), none, none, some (vI l5), none] [] 312 m 0 0 := by
  unfold X11_nextOrder_L93_b at h
  refine j_iload_n C dX11_nextOrder_93 rfl ?_
  refine j_iload C dX11_nextOrder_94 rfl ?_
  refine j_iadd C dX11_nextOrder_96 ?_
  refine j_iload_n C dX11_nextOrder_97 rfl ?_
  refine j_iload C dX11_nextOrder_98 rfl ?_
  refine j_isub C dX11_nextOrder_100 ?_
  refine j_icmp_ge C 150 dX11_nextOrder_101 rfl h (fun c38 h => ?_) (fun c38 h => ?_)
  · refine j_iconst C dX11_nextOrder_150 rfl ?_
    obtain ⟨r29, er29, h⟩ := bind_some h
    have e := Option.some.inj h
    subst e
    exact j_rz C dX11_nextOrder_151 rfl (retZ_some er29) rfl
  · refine j_aload_n C dX11_nextOrder_104 rfl ?_
    refine j_getR C dX11_nextOrder_105 CF11 (by decide) fl_X11_215 rfl rfl h (fun t30 h => ?_)
    refine j_iload_n C dX11_nextOrder_108 rfl ?_
    refine j_iload C dX11_nextOrder_109 rfl ?_
    refine j_iadd C dX11_nextOrder_111 ?_
    refine j_iald C dX11_nextOrder_112 rfl h (fun t31 h => ?_)
    refine j_istore (ls' := [some (vR _), some (vI _), some (vI _), none, none, some (vI _), some (vI _)]) C dX11_nextOrder_113 (by decide) rfl ?_
    refine j_aload_n C dX11_nextOrder_115 rfl ?_
    refine j_getR C dX11_nextOrder_116 CF11 (by decide) fl_X11_215 rfl rfl h (fun t32 h => ?_)
    refine j_iload_n C dX11_nextOrder_119 rfl ?_
    refine j_iload C dX11_nextOrder_120 rfl ?_
    refine j_iadd C dX11_nextOrder_122 ?_
    refine j_aload_n C dX11_nextOrder_123 rfl ?_
    refine j_getR C dX11_nextOrder_124 CF11 (by decide) fl_X11_215 rfl rfl h (fun t33 h => ?_)
    refine j_iload_n C dX11_nextOrder_127 rfl ?_
    refine j_iload C dX11_nextOrder_128 rfl ?_
    refine j_isub C dX11_nextOrder_130 ?_
    refine j_iald C dX11_nextOrder_131 rfl h (fun t34 h => ?_)
    refine j_iast C dX11_nextOrder_132 rfl h (fun m35 h => ?_)
    refine j_aload_n C dX11_nextOrder_133 rfl ?_
    refine j_getR C dX11_nextOrder_134 CF11 (by decide) fl_X11_215 rfl rfl h (fun t36 h => ?_)
    refine j_iload_n C dX11_nextOrder_137 rfl ?_
    refine j_iload C dX11_nextOrder_138 rfl ?_
    refine j_isub C dX11_nextOrder_140 ?_
    refine j_iload C dX11_nextOrder_141 rfl ?_
    refine j_iast C dX11_nextOrder_143 rfl h (fun m37 h => ?_)
    refine j_iinc (ls' := [some (vR _), some (vI _), some (vI _), none, none, some (vI _), some (vI _)]) C dX11_nextOrder_144 rfl (by decide) rfl ?_
    refine j_goto C 93 dX11_nextOrder_147 rfl ?_
    refine j_mask [true, true, true, false, false, true, false] (ls' := [some (vR _), some (vI _), some (vI _), none, none, some (vI _), none]) rfl ?_
    exact hr93 _ _ _ _ _ h
set_option maxRecDepth 100000 in
set_option maxHeartbeats 4000000 in
theorem X11_nextOrder_L93_ok {g : Gm} {w : Wd} (C : Cx g w RX11 cX11_nextOrder 7 (some .boolean)) {lv : Nat} (hlv : 0 < lv) {N : Nat} {out : (Int × Mem)} (f : Nat) : ∀ {l0 : Nat} {l1 : Int} {l2 : Int} {l5 : Int} {m : Mem}, X11_nextOrder_L93 N f l0 l1 l2 l5 m = some out → Jd g w 7 (rmL lv 0 0) (Qm g w (some (vI out.1)) out.2) 93 [some (vR l0), some (vI l1), some (vI l2), none, none, some (vI l5), none] [] 312 m 0 0 := by
  induction f with
  | zero => intro l0 l1 l2 l5 m h; exact none_ne (α := (Int × Mem)) h
  | succ f ih => intro l0 l1 l2 l5 m h; exact X11_nextOrder_L93_bok C hlv (fun l0 l1 l2 l5 m h => ih h) h
set_option maxRecDepth 100000 in
set_option maxHeartbeats 4000000 in
theorem X11_nextOrder_ct {N : Nat} {l0 : Nat} {l1 : Int} {m : Mem} {out : (Int × Mem)} (h : X11_nextOrder N l0 l1 m = some out) : shK l0 = 11 + 10 ∧ CT yX11_nextOrder cX11_nextOrder 7 (some .boolean) 1 0 0 [vR l0, vI l1] 312 m (some (vI out.1)) 312 out.2 := by
  unfold X11_nextOrder at h
  obtain ⟨hK, h⟩ := ite_some h
  have hlv : 0 < 1 := by decide
  refine ⟨hK, CT.of (by decide +kernel) rfl (Nat.le_of_ble_eq_true rfl) (ls := [some (vR l0), some (vI l1), none, none, none, none, none]) rfl fun g w C _ => ?_⟩
  refine j_iload_n C dX11_nextOrder_0 rfl ?_
  refine j_iconst C dX11_nextOrder_1 rfl ?_
  refine j_isub C dX11_nextOrder_2 ?_
  refine j_istore_n (ls' := [some (vR _), some (vI _), some (vI _), none, none, none, none]) C dX11_nextOrder_3 (by decide) rfl ?_
  refine X11_nextOrder_L4_ok C hlv (fun z7 z8 z9 m10 h => ?_) N h
  refine j_iload_n C dX11_nextOrder_31 rfl ?_
  refine j_if_ge C 37 dX11_nextOrder_32 rfl h (fun c40 h => ?_) (fun c40 h => ?_)
  · refine j_iload_n C dX11_nextOrder_37 rfl ?_
    refine j_iconst C dX11_nextOrder_38 rfl ?_
    refine j_isub C dX11_nextOrder_39 ?_
    refine j_istore_n (ls' := [some (vR _), some (vI _), some (vI _), some (vI _), none, none, none]) C dX11_nextOrder_40 (by decide) rfl ?_
    refine X11_nextOrder_L41_ok C hlv (fun z16 z17 z18 z19 m20 h => ?_) N h
    refine j_aload_n C dX11_nextOrder_62 rfl ?_
    refine j_getR C dX11_nextOrder_63 CF11 (by decide) fl_X11_215 rfl rfl h (fun t21 h => ?_)
    refine j_iload_n C dX11_nextOrder_66 rfl ?_
    refine j_iald C dX11_nextOrder_67 rfl h (fun t22 h => ?_)
    refine j_istore (ls' := [some (vR _), some (vI _), some (vI _), some (vI _), some (vI _), none, none]) C dX11_nextOrder_68 (by decide) rfl ?_
    refine j_aload_n C dX11_nextOrder_70 rfl ?_
    refine j_getR C dX11_nextOrder_71 CF11 (by decide) fl_X11_215 rfl rfl h (fun t23 h => ?_)
    refine j_iload_n C dX11_nextOrder_74 rfl ?_
    refine j_aload_n C dX11_nextOrder_75 rfl ?_
    refine j_getR C dX11_nextOrder_76 CF11 (by decide) fl_X11_215 rfl rfl h (fun t24 h => ?_)
    refine j_iload_n C dX11_nextOrder_79 rfl ?_
    refine j_iald C dX11_nextOrder_80 rfl h (fun t25 h => ?_)
    refine j_iast C dX11_nextOrder_81 rfl h (fun m26 h => ?_)
    refine j_aload_n C dX11_nextOrder_82 rfl ?_
    refine j_getR C dX11_nextOrder_83 CF11 (by decide) fl_X11_215 rfl rfl h (fun t27 h => ?_)
    refine j_iload_n C dX11_nextOrder_86 rfl ?_
    refine j_iload C dX11_nextOrder_87 rfl ?_
    refine j_iast C dX11_nextOrder_89 rfl h (fun m28 h => ?_)
    refine j_iconst C dX11_nextOrder_90 rfl ?_
    refine j_istore (ls' := [some (vR _), some (vI _), some (vI _), some (vI _), some (vI _), some (vI _), none]) C dX11_nextOrder_91 (by decide) rfl ?_
    refine j_mask [true, true, true, false, false, true, false] (ls' := [some (vR _), some (vI _), some (vI _), none, none, some (vI _), none]) rfl ?_
    exact X11_nextOrder_L93_ok C hlv N h
  · refine j_iconst C dX11_nextOrder_35 rfl ?_
    obtain ⟨r39, er39, h⟩ := bind_some h
    have e := Option.some.inj h
    subst e
    exact j_rz C dX11_nextOrder_36 rfl (retZ_some er39) rfl
theorem dX11_night_0 : decode cX11_night 0 = .ok (.aload_n 0, 1) := by decide +kernel
theorem dX11_night_1 : decode cX11_night 1 = .ok (.invokevirtual 553, 3) := by decide +kernel
theorem dX11_night_4 : decode cX11_night 4 = .ok (.ifCond .eq 15, 3) := by decide +kernel
theorem dX11_night_7 : decode cX11_night 7 = .ok (.aload_n 0, 1) := by decide +kernel
theorem dX11_night_8 : decode cX11_night 8 = .ok (.getfield 164, 3) := by decide +kernel
theorem dX11_night_11 : decode cX11_night 11 = .ok (.iconst 0, 1) := by decide +kernel
theorem dX11_night_12 : decode cX11_night 12 = .ok (.iaload, 1) := by decide +kernel
theorem dX11_night_13 : decode cX11_night 13 = .ok (.sipush 9999, 3) := by decide +kernel
theorem dX11_night_16 : decode cX11_night 16 = .ok (.if_icmp .ne 9, 3) := by decide +kernel
theorem dX11_night_19 : decode cX11_night 19 = .ok (.aload_n 0, 1) := by decide +kernel
theorem dX11_night_20 : decode cX11_night 20 = .ok (.iconst 3, 1) := by decide +kernel
theorem dX11_night_21 : decode cX11_night 21 = .ok (.invokevirtual 248, 3) := by decide +kernel
theorem dX11_night_24 : decode cX11_night 24 = .ok (.ireturn, 1) := by decide +kernel
theorem dX11_night_25 : decode cX11_night 25 = .ok (.aload_n 0, 1) := by decide +kernel
theorem dX11_night_26 : decode cX11_night 26 = .ok (.invokevirtual 562, 3) := by decide +kernel
theorem dX11_night_29 : decode cX11_night 29 = .ok (.aload_n 0, 1) := by decide +kernel
theorem dX11_night_30 : decode cX11_night 30 = .ok (.iconst 0, 1) := by decide +kernel
theorem dX11_night_31 : decode cX11_night 31 = .ok (.invokevirtual 544, 3) := by decide +kernel
theorem dX11_night_34 : decode cX11_night 34 = .ok (.aload_n 0, 1) := by decide +kernel
theorem dX11_night_35 : decode cX11_night 35 = .ok (.invokevirtual 573, 3) := by decide +kernel
theorem dX11_night_38 : decode cX11_night 38 = .ok (.ireturn, 1) := by decide +kernel
set_option maxRecDepth 100000 in
set_option maxHeartbeats 4000000 in
theorem X11_night_J19_ok {g : Gm} {w : Wd} (C : Cx g w RX11 cX11_night 1 (some .int)) {lv : Nat} (hlv : 8 < lv) {N : Nat} {l0 : Nat} {m : Mem} {out : (Int × Mem)} (h : X11_night_J19 N l0 m = some out) : Jd g w 1 (rmL lv 0 0) (Qm g w (some (vI out.1)) out.2) 19 [some (vR l0)] [] 312 m 0 0 := by
  unfold X11_night_J19 at h
  refine j_aload_n C dX11_night_19 rfl ?_
  refine j_iconst C dX11_night_20 rfl ?_
  obtain ⟨p2, ep2, h⟩ := bind_some h
  have qp2 := X11_refuses_ct ep2
  refine j_cVI C dX11_night_21 vl_X11_248 CF11 rfl qp2.1 qp2.2 (by omega) rfl rfl (Nat.le_of_ble_eq_true rfl) ?_
  have e := Option.some.inj h
  subst e
  exact j_ri C dX11_night_24 rfl rfl rfl
set_option maxRecDepth 100000 in
set_option maxHeartbeats 4000000 in
theorem X11_night_ct {N : Nat} {l0 : Nat} {m : Mem} {out : (Int × Mem)} (h : X11_night N l0 m = some out) : shK l0 = 11 + 10 ∧ CT yX11_night cX11_night 1 (some .int) 9 0 0 [vR l0] 312 m (some (vI out.1)) 312 out.2 := by
  unfold X11_night at h
  obtain ⟨hK, h⟩ := ite_some h
  have hlv : 8 < 9 := by decide
  refine ⟨hK, CT.of (by decide +kernel) rfl (Nat.le_of_ble_eq_true rfl) (ls := [some (vR l0)]) rfl fun g w C _ => ?_⟩
  refine j_aload_n C dX11_night_0 rfl ?_
  obtain ⟨p1, ep1, h⟩ := bind_some h
  have qp1 := X11_isIsland_ct ep1
  refine j_cVI C dX11_night_1 vl_X11_553 CF11 rfl qp1.1 qp1.2 (by omega) rfl rfl (Nat.le_of_ble_eq_true rfl) ?_
  refine j_if_eq C 19 dX11_night_4 rfl h (fun c9 h => ?_) (fun c9 h => ?_)
  · exact X11_night_J19_ok C hlv h
  · refine j_aload_n C dX11_night_7 rfl ?_
    refine j_getR C dX11_night_8 CF11 (by decide) fl_X11_164 rfl rfl h (fun t3 h => ?_)
    refine j_iconst C dX11_night_11 rfl ?_
    refine j_iald C dX11_night_12 rfl h (fun t4 h => ?_)
    refine j_sipush C dX11_night_13 rfl ?_
    refine j_icmp_ne C 25 dX11_night_16 rfl h (fun c8 h => ?_) (fun c8 h => ?_)
    · refine j_aload_n C dX11_night_25 rfl ?_
      obtain ⟨p5, ep5, h⟩ := bind_some h
      have qp5 := X11_keeps_ct ep5
      refine j_cVV C dX11_night_26 vl_X11_562 CF11 rfl qp5.1 qp5.2 (by omega) rfl rfl (Nat.le_of_ble_eq_true rfl) ?_
      refine j_aload_n C dX11_night_29 rfl ?_
      refine j_iconst C dX11_night_30 rfl ?_
      obtain ⟨p6, ep6, h⟩ := bind_some h
      have qp6 := X11_nightAsTold_ct ep6
      refine j_cVV C dX11_night_31 vl_X11_544 CF11 rfl qp6.1 qp6.2 (by omega) rfl rfl (Nat.le_of_ble_eq_true rfl) ?_
      refine j_aload_n C dX11_night_34 rfl ?_
      obtain ⟨p7, ep7, h⟩ := bind_some h
      have qp7 := X11_fills_ct ep7
      refine j_cVI C dX11_night_35 vl_X11_573 CF11 rfl qp7.1 qp7.2 (by omega) rfl rfl (Nat.le_of_ble_eq_true rfl) ?_
      have e := Option.some.inj h
      subst e
      exact j_ri C dX11_night_38 rfl rfl rfl
    · exact X11_night_J19_ok C hlv h
theorem dX11_nights_0 : decode cX11_nights 0 = .ok (.aload_n 0, 1) := by decide +kernel
theorem dX11_nights_1 : decode cX11_nights 1 = .ok (.invokevirtual 553, 3) := by decide +kernel
theorem dX11_nights_4 : decode cX11_nights 4 = .ok (.ifCond .eq 27, 3) := by decide +kernel
theorem dX11_nights_7 : decode cX11_nights 7 = .ok (.iload_n 1, 1) := by decide +kernel
theorem dX11_nights_8 : decode cX11_nights 8 = .ok (.iconst 1, 1) := by decide +kernel
theorem dX11_nights_9 : decode cX11_nights 9 = .ok (.bipush 40, 2) := by decide +kernel
theorem dX11_nights_11 : decode cX11_nights 11 = .ok (.invokestatic 334, 3) := by decide +kernel
theorem dX11_nights_14 : decode cX11_nights 14 = .ok (.ifCond .eq 17, 3) := by decide +kernel
theorem dX11_nights_17 : decode cX11_nights 17 = .ok (.aload_n 0, 1) := by decide +kernel
theorem dX11_nights_18 : decode cX11_nights 18 = .ok (.getfield 164, 3) := by decide +kernel
theorem dX11_nights_21 : decode cX11_nights 21 = .ok (.iconst 0, 1) := by decide +kernel
theorem dX11_nights_22 : decode cX11_nights 22 = .ok (.iaload, 1) := by decide +kernel
theorem dX11_nights_23 : decode cX11_nights 23 = .ok (.iload_n 1, 1) := by decide +kernel
theorem dX11_nights_24 : decode cX11_nights 24 = .ok (.iadd, 1) := by decide +kernel
theorem dX11_nights_25 : decode cX11_nights 25 = .ok (.sipush 9999, 3) := by decide +kernel
theorem dX11_nights_28 : decode cX11_nights 28 = .ok (.if_icmp .le 9, 3) := by decide +kernel
theorem dX11_nights_31 : decode cX11_nights 31 = .ok (.aload_n 0, 1) := by decide +kernel
theorem dX11_nights_32 : decode cX11_nights 32 = .ok (.iconst 3, 1) := by decide +kernel
theorem dX11_nights_33 : decode cX11_nights 33 = .ok (.invokevirtual 248, 3) := by decide +kernel
theorem dX11_nights_36 : decode cX11_nights 36 = .ok (.ireturn, 1) := by decide +kernel
theorem dX11_nights_37 : decode cX11_nights 37 = .ok (.aload_n 0, 1) := by decide +kernel
theorem dX11_nights_38 : decode cX11_nights 38 = .ok (.invokevirtual 562, 3) := by decide +kernel
theorem dX11_nights_41 : decode cX11_nights 41 = .ok (.iconst 0, 1) := by decide +kernel
theorem dX11_nights_42 : decode cX11_nights 42 = .ok (.istore_n 2, 1) := by decide +kernel
theorem dX11_nights_43 : decode cX11_nights 43 = .ok (.iconst 0, 1) := by decide +kernel
theorem dX11_nights_44 : decode cX11_nights 44 = .ok (.istore_n 3, 1) := by decide +kernel
theorem dX11_nights_45 : decode cX11_nights 45 = .ok (.iload_n 3, 1) := by decide +kernel
theorem dX11_nights_46 : decode cX11_nights 46 = .ok (.iload_n 1, 1) := by decide +kernel
theorem dX11_nights_47 : decode cX11_nights 47 = .ok (.if_icmp .ge 67, 3) := by decide +kernel
theorem dX11_nights_50 : decode cX11_nights 50 = .ok (.iconst 0, 1) := by decide +kernel
theorem dX11_nights_51 : decode cX11_nights 51 = .ok (.istore 4, 2) := by decide +kernel
theorem dX11_nights_53 : decode cX11_nights 53 = .ok (.iload 4, 2) := by decide +kernel
theorem dX11_nights_55 : decode cX11_nights 55 = .ok (.bipush 12, 2) := by decide +kernel
theorem dX11_nights_57 : decode cX11_nights 57 = .ok (.if_icmp .ge 39, 3) := by decide +kernel
theorem dX11_nights_60 : decode cX11_nights 60 = .ok (.aload_n 0, 1) := by decide +kernel
theorem dX11_nights_61 : decode cX11_nights 61 = .ok (.getfield 200, 3) := by decide +kernel
theorem dX11_nights_64 : decode cX11_nights 64 = .ok (.iload 4, 2) := by decide +kernel
theorem dX11_nights_66 : decode cX11_nights 66 = .ok (.aload_n 0, 1) := by decide +kernel
theorem dX11_nights_67 : decode cX11_nights 67 = .ok (.bipush 100, 2) := by decide +kernel
theorem dX11_nights_69 : decode cX11_nights 69 = .ok (.invokevirtual 576, 3) := by decide +kernel
theorem dX11_nights_72 : decode cX11_nights 72 = .ok (.aload_n 0, 1) := by decide +kernel
theorem dX11_nights_73 : decode cX11_nights 73 = .ok (.getfield 111, 3) := by decide +kernel
theorem dX11_nights_76 : decode cX11_nights 76 = .ok (.aload_n 0, 1) := by decide +kernel
theorem dX11_nights_77 : decode cX11_nights 77 = .ok (.getfield 51, 3) := by decide +kernel
theorem dX11_nights_80 : decode cX11_nights 80 = .ok (.iaload, 1) := by decide +kernel
theorem dX11_nights_81 : decode cX11_nights 81 = .ok (.if_icmp .ge 7, 3) := by decide +kernel
theorem dX11_nights_84 : decode cX11_nights 84 = .ok (.iconst 1, 1) := by decide +kernel
theorem dX11_nights_85 : decode cX11_nights 85 = .ok (.goto 4, 3) := by decide +kernel
theorem dX11_nights_88 : decode cX11_nights 88 = .ok (.iconst 0, 1) := by decide +kernel
theorem dX11_nights_89 : decode cX11_nights 89 = .ok (.iastore, 1) := by decide +kernel
theorem dX11_nights_90 : decode cX11_nights 90 = .ok (.iinc 4 1, 3) := by decide +kernel
theorem dX11_nights_93 : decode cX11_nights 93 = .ok (.goto (-40), 3) := by decide +kernel
theorem dX11_nights_96 : decode cX11_nights 96 = .ok (.aload_n 0, 1) := by decide +kernel
theorem dX11_nights_97 : decode cX11_nights 97 = .ok (.iconst 0, 1) := by decide +kernel
theorem dX11_nights_98 : decode cX11_nights 98 = .ok (.invokevirtual 521, 3) := by decide +kernel
theorem dX11_nights_101 : decode cX11_nights 101 = .ok (.iload_n 2, 1) := by decide +kernel
theorem dX11_nights_102 : decode cX11_nights 102 = .ok (.aload_n 0, 1) := by decide +kernel
theorem dX11_nights_103 : decode cX11_nights 103 = .ok (.invokevirtual 573, 3) := by decide +kernel
theorem dX11_nights_106 : decode cX11_nights 106 = .ok (.iadd, 1) := by decide +kernel
theorem dX11_nights_107 : decode cX11_nights 107 = .ok (.istore_n 2, 1) := by decide +kernel
theorem dX11_nights_108 : decode cX11_nights 108 = .ok (.iinc 3 1, 3) := by decide +kernel
theorem dX11_nights_111 : decode cX11_nights 111 = .ok (.goto (-66), 3) := by decide +kernel
theorem dX11_nights_114 : decode cX11_nights 114 = .ok (.iload_n 2, 1) := by decide +kernel
theorem dX11_nights_115 : decode cX11_nights 115 = .ok (.ireturn, 1) := by decide +kernel
set_option maxRecDepth 100000 in
set_option maxHeartbeats 4000000 in
theorem X11_nights_J31_ok {g : Gm} {w : Wd} (C : Cx g w RX11 cX11_nights 5 (some .int)) {lv : Nat} (hlv : 7 < lv) {N : Nat} {l0 : Nat} {m : Mem} {out : (Int × Mem)} (h : X11_nights_J31 N l0 m = some out) : Jd g w 5 (rmL lv 0 0) (Qm g w (some (vI out.1)) out.2) 31 [some (vR l0), none, none, none, none] [] 312 m 0 0 := by
  unfold X11_nights_J31 at h
  refine j_aload_n C dX11_nights_31 rfl ?_
  refine j_iconst C dX11_nights_32 rfl ?_
  obtain ⟨p2, ep2, h⟩ := bind_some h
  have qp2 := X11_refuses_ct ep2
  refine j_cVI C dX11_nights_33 vl_X11_248 CF11 rfl qp2.1 qp2.2 (by omega) rfl rfl (Nat.le_of_ble_eq_true rfl) ?_
  have e := Option.some.inj h
  subst e
  exact j_ri C dX11_nights_36 rfl rfl rfl
set_option maxRecDepth 100000 in
set_option maxHeartbeats 4000000 in
theorem X11_nights_J89_ok {g : Gm} {w : Wd} (C : Cx g w RX11 cX11_nights 5 (some .int)) {lv : Nat} (hlv : 7 < lv) {N : Nat} {r53 : Nat → Int → Int → Int → Int → Mem → Option (Int × Mem) } {l0 : Nat} {l1 : Int} {l2 : Int} {l3 : Int} {l4 : Int} {s0 : Nat} {s1 : Int} {s2 : Int} {m : Mem} {out : (Int × Mem)} (hr53 : ∀ l0 l1 l2 l3 l4 m, r53 l0 l1 l2 l3 l4 m = some out → Jd g w 5 (rmL lv 0 0) (Qm g w (some (vI out.1)) out.2) 53 [some (vR l0), some (vI l1), some (vI l2), some (vI l3), some (vI l4)] [] 312 m 0 0) (h : X11_nights_J89 N r53 l0 l1 l2 l3 l4 s0 s1 s2 m = some out) : Jd g w 5 (rmL lv 0 0) (Qm g w (some (vI out.1)) out.2) 89 [some (vR l0), some (vI l1), some (vI l2), some (vI l3), some (vI l4)] [vI s2, vI s1, vR s0] 312 m 0 0 := by
  unfold X11_nights_J89 at h
  refine j_iast C dX11_nights_89 rfl h (fun m12 h => ?_)
  refine j_iinc (ls' := [some (vR _), some (vI _), some (vI _), some (vI _), some (vI _)]) C dX11_nights_90 rfl (by decide) rfl ?_
  refine j_goto C 53 dX11_nights_93 rfl ?_
  exact hr53 _ _ _ _ _ _ h
set_option maxRecDepth 100000 in
set_option maxHeartbeats 4000000 in
theorem X11_nights_L53_bok {g : Gm} {w : Wd} (C : Cx g w RX11 cX11_nights 5 (some .int)) {lv : Nat} (hlv : 7 < lv) {N : Nat} {k96 : Nat → Int → Int → Int → Mem → Option (Int × Mem)} {r53 : Nat → Int → Int → Int → Int → Mem → Option (Int × Mem)} {l0 : Nat} {l1 : Int} {l2 : Int} {l3 : Int} {l4 : Int} {m : Mem} {out : (Int × Mem)} (hk96 : ∀ l0 l1 l2 l3 m, k96 l0 l1 l2 l3 m = some out → Jd g w 5 (rmL lv 0 0) (Qm g w (some (vI out.1)) out.2) 96 [some (vR l0), some (vI l1), some (vI l2), some (vI l3), none] [] 312 m 0 0) (hr53 : ∀ l0 l1 l2 l3 l4 m, r53 l0 l1 l2 l3 l4 m = some out → Jd g w 5 (rmL lv 0 0) (Qm g w (some (vI out.1)) out.2) 53 [some (vR l0), some (vI l1), some (vI l2), some (vI l3), some (vI l4)] [] 312 m 0 0) (h : X11_nights_L53_b N k96 r53 l0 l1 l2 l3 l4 m = some out) : Jd g w 5 (rmL lv 0 0) (Qm g w (some (vI out.1)) out.2) 53 [some (vR l0), some (vI l1), some (vI l2), some (vI l3), some (vI l4)] [] 312 m 0 0 := by
  unfold X11_nights_L53_b at h
  refine j_iload C dX11_nights_53 rfl ?_
  refine j_bipush C dX11_nights_55 rfl ?_
  refine j_icmp_ge C 96 dX11_nights_57 rfl h (fun c14 h => ?_) (fun c14 h => ?_)
  · refine j_mask [true, true, true, true, false] (ls' := [some (vR _), some (vI _), some (vI _), some (vI _), none]) rfl ?_
    exact hk96 _ _ _ _ _ h
  · refine j_aload_n C dX11_nights_60 rfl ?_
    refine j_getR C dX11_nights_61 CF11 (by decide) fl_X11_200 rfl rfl h (fun t7 h => ?_)
    refine j_iload C dX11_nights_64 rfl ?_
    refine j_aload_n C dX11_nights_66 rfl ?_
    refine j_bipush C dX11_nights_67 rfl ?_
    obtain ⟨p8, ep8, h⟩ := bind_some h
    have qp8 := X11_draw_ct ep8
    refine j_cVI C dX11_nights_69 vl_X11_576 CF11 rfl qp8.1 qp8.2 (by omega) rfl rfl (Nat.le_of_ble_eq_true rfl) ?_
    refine j_aload_n C dX11_nights_72 rfl ?_
    refine j_getR C dX11_nights_73 CF11 (by decide) fl_X11_111 rfl rfl h (fun t9 h => ?_)
    refine j_aload_n C dX11_nights_76 rfl ?_
    refine j_getI C dX11_nights_77 CF11 (by decide) fl_X11_51 rfl rfl h (fun t10 h => ?_)
    refine j_iald C dX11_nights_80 rfl h (fun t11 h => ?_)
    refine j_icmp_ge C 88 dX11_nights_81 rfl h (fun c13 h => ?_) (fun c13 h => ?_)
    · refine j_iconst C dX11_nights_88 rfl ?_
      exact X11_nights_J89_ok C hlv hr53 h
    · refine j_iconst C dX11_nights_84 rfl ?_
      refine j_goto C 89 dX11_nights_85 rfl ?_
      exact X11_nights_J89_ok C hlv hr53 h
set_option maxRecDepth 100000 in
set_option maxHeartbeats 4000000 in
theorem X11_nights_L53_ok {g : Gm} {w : Wd} (C : Cx g w RX11 cX11_nights 5 (some .int)) {lv : Nat} (hlv : 7 < lv) {N : Nat} {k96 : Nat → Int → Int → Int → Mem → Option (Int × Mem)} {out : (Int × Mem)} (hk96 : ∀ l0 l1 l2 l3 m, k96 l0 l1 l2 l3 m = some out → Jd g w 5 (rmL lv 0 0) (Qm g w (some (vI out.1)) out.2) 96 [some (vR l0), some (vI l1), some (vI l2), some (vI l3), none] [] 312 m 0 0) (f : Nat) : ∀ {l0 : Nat} {l1 : Int} {l2 : Int} {l3 : Int} {l4 : Int} {m : Mem}, X11_nights_L53 N k96 f l0 l1 l2 l3 l4 m = some out → Jd g w 5 (rmL lv 0 0) (Qm g w (some (vI out.1)) out.2) 53 [some (vR l0), some (vI l1), some (vI l2), some (vI l3), some (vI l4)] [] 312 m 0 0 := by
  induction f with
  | zero => intro l0 l1 l2 l3 l4 m h; exact none_ne (α := (Int × Mem)) h
  | succ f ih => intro l0 l1 l2 l3 l4 m h; exact X11_nights_L53_bok C hlv hk96 (fun l0 l1 l2 l3 l4 m h => ih h) h
set_option maxRecDepth 100000 in
set_option maxHeartbeats 4000000 in
theorem X11_nights_L45_bok {g : Gm} {w : Wd} (C : Cx g w RX11 cX11_nights 5 (some .int)) {lv : Nat} (hlv : 7 < lv) {N : Nat} {r45 : Nat → Int → Int → Int → Mem → Option (Int × Mem)} {l0 : Nat} {l1 : Int} {l2 : Int} {l3 : Int} {m : Mem} {out : (Int × Mem)} (hr45 : ∀ l0 l1 l2 l3 m, r45 l0 l1 l2 l3 m = some out → Jd g w 5 (rmL lv 0 0) (Qm g w (some (vI out.1)) out.2) 45 [some (vR l0), some (vI l1), some (vI l2), some (vI l3), none] [] 312 m 0 0) (h : X11_nights_L45_b N r45 l0 l1 l2 l3 m = some out) : Jd g w 5 (rmL lv 0 0) (Qm g w (some (vI out.1)) out.2) 45 [some (vR l0), some (vI l1), some (vI l2), some (vI l3), none] [] 312 m 0 0 := by
  unfold X11_nights_L45_b at h
  refine j_iload_n C dX11_nights_45 rfl ?_
  refine j_iload_n C dX11_nights_46 rfl ?_
  refine j_icmp_ge C 114 dX11_nights_47 rfl h (fun c22 h => ?_) (fun c22 h => ?_)
  · refine j_iload_n C dX11_nights_114 rfl ?_
    have e := Option.some.inj h
    subst e
    exact j_ri C dX11_nights_115 rfl rfl rfl
  · refine j_iconst C dX11_nights_50 rfl ?_
    refine j_istore (ls' := [some (vR _), some (vI _), some (vI _), some (vI _), some (vI _)]) C dX11_nights_51 (by decide) rfl ?_
    refine X11_nights_L53_ok C hlv (fun z15 z16 z17 z18 m19 h => ?_) N h
    refine j_aload_n C dX11_nights_96 rfl ?_
    refine j_iconst C dX11_nights_97 rfl ?_
    obtain ⟨p20, ep20, h⟩ := bind_some h
    have qp20 := X11_goesNight_ct ep20
    refine j_cVV C dX11_nights_98 vl_X11_521 CF11 rfl qp20.1 qp20.2 (by omega) rfl rfl (Nat.le_of_ble_eq_true rfl) ?_
    refine j_iload_n C dX11_nights_101 rfl ?_
    refine j_aload_n C dX11_nights_102 rfl ?_
    obtain ⟨p21, ep21, h⟩ := bind_some h
    have qp21 := X11_fills_ct ep21
    refine j_cVI C dX11_nights_103 vl_X11_573 CF11 rfl qp21.1 qp21.2 (by omega) rfl rfl (Nat.le_of_ble_eq_true rfl) ?_
    refine j_iadd C dX11_nights_106 ?_
    refine j_istore_n (ls' := [some (vR _), some (vI _), some (vI _), some (vI _), none]) C dX11_nights_107 (by decide) rfl ?_
    refine j_iinc (ls' := [some (vR _), some (vI _), some (vI _), some (vI _), none]) C dX11_nights_108 rfl (by decide) rfl ?_
    refine j_goto C 45 dX11_nights_111 rfl ?_
    exact hr45 _ _ _ _ _ h
set_option maxRecDepth 100000 in
set_option maxHeartbeats 4000000 in
theorem X11_nights_L45_ok {g : Gm} {w : Wd} (C : Cx g w RX11 cX11_nights 5 (some .int)) {lv : Nat} (hlv : 7 < lv) {N : Nat} {out : (Int × Mem)} (f : Nat) : ∀ {l0 : Nat} {l1 : Int} {l2 : Int} {l3 : Int} {m : Mem}, X11_nights_L45 N f l0 l1 l2 l3 m = some out → Jd g w 5 (rmL lv 0 0) (Qm g w (some (vI out.1)) out.2) 45 [some (vR l0), some (vI l1), some (vI l2), some (vI l3), none] [] 312 m 0 0 := by
  induction f with
  | zero => intro l0 l1 l2 l3 m h; exact none_ne (α := (Int × Mem)) h
  | succ f ih => intro l0 l1 l2 l3 m h; exact X11_nights_L45_bok C hlv (fun l0 l1 l2 l3 m h => ih h) h
set_option maxRecDepth 100000 in
set_option maxHeartbeats 4000000 in
theorem X11_nights_ct {N : Nat} {l0 : Nat} {l1 : Int} {m : Mem} {out : (Int × Mem)} (h : X11_nights N l0 l1 m = some out) : shK l0 = 11 + 10 ∧ CT yX11_nights cX11_nights 5 (some .int) 8 0 0 [vR l0, vI l1] 312 m (some (vI out.1)) 312 out.2 := by
  unfold X11_nights at h
  obtain ⟨hK, h⟩ := ite_some h
  have hlv : 7 < 8 := by decide
  refine ⟨hK, CT.of (by decide +kernel) rfl (Nat.le_of_ble_eq_true rfl) (ls := [some (vR l0), some (vI l1), none, none, none]) rfl fun g w C _ => ?_⟩
  refine j_aload_n C dX11_nights_0 rfl ?_
  obtain ⟨p1, ep1, h⟩ := bind_some h
  have qp1 := X11_isIsland_ct ep1
  refine j_cVI C dX11_nights_1 vl_X11_553 CF11 rfl qp1.1 qp1.2 (by omega) rfl rfl (Nat.le_of_ble_eq_true rfl) ?_
  refine j_if_eq C 31 dX11_nights_4 rfl h (fun c25 h => ?_) (fun c25 h => ?_)
  · refine j_mask [true, false, false, false, false] (ls' := [some (vR _), none, none, none, none]) rfl ?_
    exact X11_nights_J31_ok C hlv h
  · refine j_iload_n C dX11_nights_7 rfl ?_
    refine j_iconst C dX11_nights_8 rfl ?_
    refine j_bipush C dX11_nights_9 rfl ?_
    obtain ⟨p3, ep3, h⟩ := bind_some h
    have qp3 := X11_is_ct ep3
    refine j_cSI C dX11_nights_11 sl_X11_334 qp3 (by omega) rfl rfl (Nat.le_of_ble_eq_true rfl) ?_
    refine j_if_eq C 31 dX11_nights_14 rfl h (fun c24 h => ?_) (fun c24 h => ?_)
    · refine j_mask [true, false, false, false, false] (ls' := [some (vR _), none, none, none, none]) rfl ?_
      exact X11_nights_J31_ok C hlv h
    · refine j_aload_n C dX11_nights_17 rfl ?_
      refine j_getR C dX11_nights_18 CF11 (by decide) fl_X11_164 rfl rfl h (fun t4 h => ?_)
      refine j_iconst C dX11_nights_21 rfl ?_
      refine j_iald C dX11_nights_22 rfl h (fun t5 h => ?_)
      refine j_iload_n C dX11_nights_23 rfl ?_
      refine j_iadd C dX11_nights_24 ?_
      refine j_sipush C dX11_nights_25 rfl ?_
      refine j_icmp_le C 37 dX11_nights_28 rfl h (fun c23 h => ?_) (fun c23 h => ?_)
      · refine j_aload_n C dX11_nights_37 rfl ?_
        obtain ⟨p6, ep6, h⟩ := bind_some h
        have qp6 := X11_keeps_ct ep6
        refine j_cVV C dX11_nights_38 vl_X11_562 CF11 rfl qp6.1 qp6.2 (by omega) rfl rfl (Nat.le_of_ble_eq_true rfl) ?_
        refine j_iconst C dX11_nights_41 rfl ?_
        refine j_istore_n (ls' := [some (vR _), some (vI _), some (vI _), none, none]) C dX11_nights_42 (by decide) rfl ?_
        refine j_iconst C dX11_nights_43 rfl ?_
        refine j_istore_n (ls' := [some (vR _), some (vI _), some (vI _), some (vI _), none]) C dX11_nights_44 (by decide) rfl ?_
        exact X11_nights_L45_ok C hlv N h
      · refine j_mask [true, false, false, false, false] (ls' := [some (vR _), none, none, none, none]) rfl ?_
        exact X11_nights_J31_ok C hlv h
theorem dX11_octet_0 : decode cX11_octet 0 = .ok (.iload_n 1, 1) := by decide +kernel
theorem dX11_octet_1 : decode cX11_octet 1 = .ok (.iconst 0, 1) := by decide +kernel
theorem dX11_octet_2 : decode cX11_octet 2 = .ok (.aload_n 0, 1) := by decide +kernel
theorem dX11_octet_3 : decode cX11_octet 3 = .ok (.getfield 245, 3) := by decide +kernel
theorem dX11_octet_6 : decode cX11_octet 6 = .ok (.iconst 1, 1) := by decide +kernel
theorem dX11_octet_7 : decode cX11_octet 7 = .ok (.isub, 1) := by decide +kernel
theorem dX11_octet_8 : decode cX11_octet 8 = .ok (.invokestatic 334, 3) := by decide +kernel
theorem dX11_octet_11 : decode cX11_octet 11 = .ok (.ifCond .eq 12, 3) := by decide +kernel
theorem dX11_octet_14 : decode cX11_octet 14 = .ok (.aload_n 0, 1) := by decide +kernel
theorem dX11_octet_15 : decode cX11_octet 15 = .ok (.getfield 242, 3) := by decide +kernel
theorem dX11_octet_18 : decode cX11_octet 18 = .ok (.iload_n 1, 1) := by decide +kernel
theorem dX11_octet_19 : decode cX11_octet 19 = .ok (.iaload, 1) := by decide +kernel
theorem dX11_octet_20 : decode cX11_octet 20 = .ok (.goto 4, 3) := by decide +kernel
theorem dX11_octet_23 : decode cX11_octet 23 = .ok (.iconst (-1), 1) := by decide +kernel
theorem dX11_octet_24 : decode cX11_octet 24 = .ok (.ireturn, 1) := by decide +kernel
set_option maxRecDepth 100000 in
set_option maxHeartbeats 4000000 in
theorem X11_octet_ct {l0 : Nat} {l1 : Int} {m : Mem} {out : Int} (h : X11_octet l0 l1 m = some out) : shK l0 = 11 + 10 ∧ CT yX11_octet cX11_octet 2 (some .int) 2 0 0 [vR l0, vI l1] 312 m (some (vI out)) 312 m := by
  unfold X11_octet at h
  obtain ⟨hK, h⟩ := ite_some h
  have hlv : 1 < 2 := by decide
  refine ⟨hK, CT.of (by decide +kernel) rfl (Nat.le_of_ble_eq_true rfl) (ls := [some (vR l0), some (vI l1)]) rfl fun g w C _ => ?_⟩
  refine j_iload_n C dX11_octet_0 rfl ?_
  refine j_iconst C dX11_octet_1 rfl ?_
  refine j_aload_n C dX11_octet_2 rfl ?_
  refine j_getI C dX11_octet_3 CF11 (by decide) fl_X11_245 rfl rfl h (fun t1 h => ?_)
  refine j_iconst C dX11_octet_6 rfl ?_
  refine j_isub C dX11_octet_7 ?_
  obtain ⟨p2, ep2, h⟩ := bind_some h
  have qp2 := X11_is_ct ep2
  refine j_cSI C dX11_octet_8 sl_X11_334 qp2 (by omega) rfl rfl (Nat.le_of_ble_eq_true rfl) ?_
  refine j_if_eq C 23 dX11_octet_11 rfl h (fun c5 h => ?_) (fun c5 h => ?_)
  · refine j_iconst C dX11_octet_23 rfl ?_
    exact j_ri C dX11_octet_24 rfl (Option.some.inj h).symm rfl
  · refine j_aload_n C dX11_octet_14 rfl ?_
    refine j_getR C dX11_octet_15 CF11 (by decide) fl_X11_242 rfl rfl h (fun t3 h => ?_)
    refine j_iload_n C dX11_octet_18 rfl ?_
    refine j_iald C dX11_octet_19 rfl h (fun t4 h => ?_)
    refine j_goto C 24 dX11_octet_20 rfl ?_
    exact j_ri C dX11_octet_24 rfl (Option.some.inj h).symm rfl
theorem dX11_on_0 : decode cX11_on 0 = .ok (.aload_n 0, 1) := by decide +kernel
theorem dX11_on_1 : decode cX11_on 1 = .ok (.getfield 13, 3) := by decide +kernel
theorem dX11_on_4 : decode cX11_on 4 = .ok (.istore_n 1, 1) := by decide +kernel
theorem dX11_on_5 : decode cX11_on 5 = .ok (.aload_n 0, 1) := by decide +kernel
theorem dX11_on_6 : decode cX11_on 6 = .ok (.iconst 0, 1) := by decide +kernel
theorem dX11_on_7 : decode cX11_on 7 = .ok (.putfield 13, 3) := by decide +kernel
theorem dX11_on_10 : decode cX11_on 10 = .ok (.aload_n 0, 1) := by decide +kernel
theorem dX11_on_11 : decode cX11_on 11 = .ok (.iload_n 1, 1) := by decide +kernel
theorem dX11_on_12 : decode cX11_on 12 = .ok (.invokevirtual 623, 3) := by decide +kernel
theorem dX11_on_15 : decode cX11_on 15 = .ok (.ifCond .ne 17, 3) := by decide +kernel
theorem dX11_on_18 : decode cX11_on 18 = .ok (.aload_n 0, 1) := by decide +kernel
theorem dX11_on_19 : decode cX11_on 19 = .ok (.iconst 5, 1) := by decide +kernel
theorem dX11_on_20 : decode cX11_on 20 = .ok (.invokevirtual 248, 3) := by decide +kernel
theorem dX11_on_23 : decode cX11_on 23 = .ok (.ifCond .lt 7, 3) := by decide +kernel
theorem dX11_on_26 : decode cX11_on 26 = .ok (.iconst 1, 1) := by decide +kernel
theorem dX11_on_27 : decode cX11_on 27 = .ok (.goto 4, 3) := by decide +kernel
theorem dX11_on_30 : decode cX11_on 30 = .ok (.iconst 0, 1) := by decide +kernel
theorem dX11_on_31 : decode cX11_on 31 = .ok (.ireturn, 1) := by decide +kernel
theorem dX11_on_32 : decode cX11_on 32 = .ok (.aload_n 0, 1) := by decide +kernel
theorem dX11_on_33 : decode cX11_on 33 = .ok (.iconst 0, 1) := by decide +kernel
theorem dX11_on_34 : decode cX11_on 34 = .ok (.iconst 1, 1) := by decide +kernel
theorem dX11_on_35 : decode cX11_on 35 = .ok (.invokevirtual 448, 3) := by decide +kernel
theorem dX11_on_38 : decode cX11_on 38 = .ok (.aload_n 0, 1) := by decide +kernel
theorem dX11_on_39 : decode cX11_on 39 = .ok (.iconst 0, 1) := by decide +kernel
theorem dX11_on_40 : decode cX11_on 40 = .ok (.putfield 179, 3) := by decide +kernel
theorem dX11_on_43 : decode cX11_on 43 = .ok (.iconst 1, 1) := by decide +kernel
theorem dX11_on_44 : decode cX11_on 44 = .ok (.ireturn, 1) := by decide +kernel
set_option maxRecDepth 100000 in
set_option maxHeartbeats 4000000 in
theorem X11_on_ct {N : Nat} {l0 : Nat} {m : Mem} {out : (Int × Mem)} (h : X11_on N l0 m = some out) : shK l0 = 11 + 10 ∧ CT yX11_on cX11_on 2 (some .boolean) 5 0 0 [vR l0] 312 m (some (vI out.1)) 312 out.2 := by
  unfold X11_on at h
  obtain ⟨hK, h⟩ := ite_some h
  have hlv : 4 < 5 := by decide
  refine ⟨hK, CT.of (by decide +kernel) rfl (Nat.le_of_ble_eq_true rfl) (ls := [some (vR l0), none]) rfl fun g w C _ => ?_⟩
  refine j_aload_n C dX11_on_0 rfl ?_
  refine j_getI C dX11_on_1 CF11 (by decide) fl_X11_13 rfl rfl h (fun t1 h => ?_)
  refine j_istore_n (ls' := [some (vR _), some (vI _)]) C dX11_on_4 (by decide) rfl ?_
  refine j_aload_n C dX11_on_5 rfl ?_
  refine j_iconst C dX11_on_6 rfl ?_
  refine j_putI C dX11_on_7 CF11 (by decide) fl_X11_13 rfl rfl rfl rfl h (fun m2 h => ?_)
  refine j_aload_n C dX11_on_10 rfl ?_
  refine j_iload_n C dX11_on_11 rfl ?_
  obtain ⟨p3, ep3, h⟩ := bind_some h
  have qp3 := X11_comesOn_ct ep3
  refine j_cVI C dX11_on_12 vl_X11_623 CF11 rfl qp3.1 qp3.2 (by omega) rfl rfl (Nat.le_of_ble_eq_true rfl) ?_
  refine j_if_ne C 32 dX11_on_15 rfl h (fun c11 h => ?_) (fun c11 h => ?_)
  · refine j_aload_n C dX11_on_32 rfl ?_
    refine j_iconst C dX11_on_33 rfl ?_
    refine j_iconst C dX11_on_34 rfl ?_
    obtain ⟨p4, ep4, h⟩ := bind_some h
    have qp4 := X11_copies_ct ep4
    refine j_cVV C dX11_on_35 vl_X11_448 CF11 rfl qp4.1 qp4.2 (by omega) rfl rfl (Nat.le_of_ble_eq_true rfl) ?_
    refine j_aload_n C dX11_on_38 rfl ?_
    refine j_iconst C dX11_on_39 rfl ?_
    refine j_putI C dX11_on_40 CF11 (by decide) fl_X11_179 rfl rfl rfl rfl h (fun m5 h => ?_)
    refine j_iconst C dX11_on_43 rfl ?_
    obtain ⟨r6, er6, h⟩ := bind_some h
    have e := Option.some.inj h
    subst e
    exact j_rz C dX11_on_44 rfl (retZ_some er6) rfl
  · refine j_aload_n C dX11_on_18 rfl ?_
    refine j_iconst C dX11_on_19 rfl ?_
    obtain ⟨p7, ep7, h⟩ := bind_some h
    have qp7 := X11_refuses_ct ep7
    refine j_cVI C dX11_on_20 vl_X11_248 CF11 rfl qp7.1 qp7.2 (by omega) rfl rfl (Nat.le_of_ble_eq_true rfl) ?_
    refine j_if_lt C 30 dX11_on_23 rfl h (fun c10 h => ?_) (fun c10 h => ?_)
    · refine j_iconst C dX11_on_30 rfl ?_
      obtain ⟨r8, er8, h⟩ := bind_some h
      have e := Option.some.inj h
      subst e
      exact j_rz C dX11_on_31 rfl (retZ_some er8) rfl
    · refine j_iconst C dX11_on_26 rfl ?_
      refine j_goto C 31 dX11_on_27 rfl ?_
      obtain ⟨r9, er9, h⟩ := bind_some h
      have e := Option.some.inj h
      subst e
      exact j_rz C dX11_on_31 rfl (retZ_some er9) rfl
theorem dX11_order_0 : decode cX11_order 0 = .ok (.aload_n 0, 1) := by decide +kernel
theorem dX11_order_1 : decode cX11_order 1 = .ok (.invokevirtual 524, 3) := by decide +kernel
theorem dX11_order_4 : decode cX11_order 4 = .ok (.istore_n 2, 1) := by decide +kernel
theorem dX11_order_5 : decode cX11_order 5 = .ok (.iload_n 2, 1) := by decide +kernel
theorem dX11_order_6 : decode cX11_order 6 = .ok (.bipush 6, 2) := by decide +kernel
theorem dX11_order_8 : decode cX11_order 8 = .ok (.if_icmp .gt 19, 3) := by decide +kernel
theorem dX11_order_11 : decode cX11_order 11 = .ok (.iload_n 1, 1) := by decide +kernel
theorem dX11_order_12 : decode cX11_order 12 = .ok (.iconst (-1), 1) := by decide +kernel
theorem dX11_order_13 : decode cX11_order 13 = .ok (.if_icmp .eq 16, 3) := by decide +kernel
theorem dX11_order_16 : decode cX11_order 16 = .ok (.iload_n 1, 1) := by decide +kernel
theorem dX11_order_17 : decode cX11_order 17 = .ok (.iconst 0, 1) := by decide +kernel
theorem dX11_order_18 : decode cX11_order 18 = .ok (.iload_n 2, 1) := by decide +kernel
theorem dX11_order_19 : decode cX11_order 19 = .ok (.iconst 1, 1) := by decide +kernel
theorem dX11_order_20 : decode cX11_order 20 = .ok (.isub, 1) := by decide +kernel
theorem dX11_order_21 : decode cX11_order 21 = .ok (.invokestatic 334, 3) := by decide +kernel
theorem dX11_order_24 : decode cX11_order 24 = .ok (.ifCond .ne 5, 3) := by decide +kernel
theorem dX11_order_27 : decode cX11_order 27 = .ok (.iconst (-1), 1) := by decide +kernel
theorem dX11_order_28 : decode cX11_order 28 = .ok (.ireturn, 1) := by decide +kernel
theorem dX11_order_29 : decode cX11_order 29 = .ok (.aload_n 0, 1) := by decide +kernel
theorem dX11_order_30 : decode cX11_order 30 = .ok (.iconst 0, 1) := by decide +kernel
theorem dX11_order_31 : decode cX11_order 31 = .ok (.invokevirtual 544, 3) := by decide +kernel
theorem dX11_order_34 : decode cX11_order 34 = .ok (.iconst 0, 1) := by decide +kernel
theorem dX11_order_35 : decode cX11_order 35 = .ok (.istore_n 3, 1) := by decide +kernel
theorem dX11_order_36 : decode cX11_order 36 = .ok (.iload_n 3, 1) := by decide +kernel
theorem dX11_order_37 : decode cX11_order 37 = .ok (.iload_n 2, 1) := by decide +kernel
theorem dX11_order_38 : decode cX11_order 38 = .ok (.if_icmp .ge 16, 3) := by decide +kernel
theorem dX11_order_41 : decode cX11_order 41 = .ok (.aload_n 0, 1) := by decide +kernel
theorem dX11_order_42 : decode cX11_order 42 = .ok (.getfield 215, 3) := by decide +kernel
theorem dX11_order_45 : decode cX11_order 45 = .ok (.iload_n 3, 1) := by decide +kernel
theorem dX11_order_46 : decode cX11_order 46 = .ok (.iload_n 3, 1) := by decide +kernel
theorem dX11_order_47 : decode cX11_order 47 = .ok (.iastore, 1) := by decide +kernel
theorem dX11_order_48 : decode cX11_order 48 = .ok (.iinc 3 1, 3) := by decide +kernel
theorem dX11_order_51 : decode cX11_order 51 = .ok (.goto (-15), 3) := by decide +kernel
theorem dX11_order_54 : decode cX11_order 54 = .ok (.iconst (-1), 1) := by decide +kernel
theorem dX11_order_55 : decode cX11_order 55 = .ok (.istore_n 3, 1) := by decide +kernel
theorem dX11_order_56 : decode cX11_order 56 = .ok (.iconst 1, 1) := by decide +kernel
theorem dX11_order_57 : decode cX11_order 57 = .ok (.istore 4, 2) := by decide +kernel
theorem dX11_order_59 : decode cX11_order 59 = .ok (.iload 4, 2) := by decide +kernel
theorem dX11_order_61 : decode cX11_order 61 = .ok (.ifCond .eq 68, 3) := by decide +kernel
theorem dX11_order_64 : decode cX11_order 64 = .ok (.aload_n 0, 1) := by decide +kernel
theorem dX11_order_65 : decode cX11_order 65 = .ok (.iload_n 2, 1) := by decide +kernel
theorem dX11_order_66 : decode cX11_order 66 = .ok (.invokevirtual 579, 3) := by decide +kernel
theorem dX11_order_69 : decode cX11_order 69 = .ok (.istore 5, 2) := by decide +kernel
theorem dX11_order_71 : decode cX11_order 71 = .ok (.iconst 0, 1) := by decide +kernel
theorem dX11_order_72 : decode cX11_order 72 = .ok (.istore 6, 2) := by decide +kernel
theorem dX11_order_74 : decode cX11_order 74 = .ok (.iload 6, 2) := by decide +kernel
theorem dX11_order_76 : decode cX11_order 76 = .ok (.iload_n 2, 1) := by decide +kernel
theorem dX11_order_77 : decode cX11_order 77 = .ok (.if_icmp .ge 29, 3) := by decide +kernel
theorem dX11_order_80 : decode cX11_order 80 = .ok (.iload 5, 2) := by decide +kernel
theorem dX11_order_82 : decode cX11_order 82 = .ok (.iload_n 3, 1) := by decide +kernel
theorem dX11_order_83 : decode cX11_order 83 = .ok (.if_icmp .le 23, 3) := by decide +kernel
theorem dX11_order_86 : decode cX11_order 86 = .ok (.aload_n 0, 1) := by decide +kernel
theorem dX11_order_87 : decode cX11_order 87 = .ok (.getfield 218, 3) := by decide +kernel
theorem dX11_order_90 : decode cX11_order 90 = .ok (.iload 6, 2) := by decide +kernel
theorem dX11_order_92 : decode cX11_order 92 = .ok (.aload_n 0, 1) := by decide +kernel
theorem dX11_order_93 : decode cX11_order 93 = .ok (.getfield 215, 3) := by decide +kernel
theorem dX11_order_96 : decode cX11_order 96 = .ok (.iload 6, 2) := by decide +kernel
theorem dX11_order_98 : decode cX11_order 98 = .ok (.iaload, 1) := by decide +kernel
theorem dX11_order_99 : decode cX11_order 99 = .ok (.iastore, 1) := by decide +kernel
theorem dX11_order_100 : decode cX11_order 100 = .ok (.iinc 6 1, 3) := by decide +kernel
theorem dX11_order_103 : decode cX11_order 103 = .ok (.goto (-29), 3) := by decide +kernel
theorem dX11_order_106 : decode cX11_order 106 = .ok (.iload 5, 2) := by decide +kernel
theorem dX11_order_108 : decode cX11_order 108 = .ok (.iload_n 3, 1) := by decide +kernel
theorem dX11_order_109 : decode cX11_order 109 = .ok (.if_icmp .le 8, 3) := by decide +kernel
theorem dX11_order_112 : decode cX11_order 112 = .ok (.iload 5, 2) := by decide +kernel
theorem dX11_order_114 : decode cX11_order 114 = .ok (.goto 4, 3) := by decide +kernel
theorem dX11_order_117 : decode cX11_order 117 = .ok (.iload_n 3, 1) := by decide +kernel
theorem dX11_order_118 : decode cX11_order 118 = .ok (.istore_n 3, 1) := by decide +kernel
theorem dX11_order_119 : decode cX11_order 119 = .ok (.aload_n 0, 1) := by decide +kernel
theorem dX11_order_120 : decode cX11_order 120 = .ok (.iload_n 2, 1) := by decide +kernel
theorem dX11_order_121 : decode cX11_order 121 = .ok (.invokevirtual 582, 3) := by decide +kernel
theorem dX11_order_124 : decode cX11_order 124 = .ok (.istore 4, 2) := by decide +kernel
theorem dX11_order_126 : decode cX11_order 126 = .ok (.goto (-67), 3) := by decide +kernel
theorem dX11_order_129 : decode cX11_order 129 = .ok (.iload_n 1, 1) := by decide +kernel
theorem dX11_order_130 : decode cX11_order 130 = .ok (.iconst (-1), 1) := by decide +kernel
theorem dX11_order_131 : decode cX11_order 131 = .ok (.if_icmp .ne 7, 3) := by decide +kernel
theorem dX11_order_134 : decode cX11_order 134 = .ok (.iload_n 3, 1) := by decide +kernel
theorem dX11_order_135 : decode cX11_order 135 = .ok (.goto 9, 3) := by decide +kernel
theorem dX11_order_138 : decode cX11_order 138 = .ok (.aload_n 0, 1) := by decide +kernel
theorem dX11_order_139 : decode cX11_order 139 = .ok (.getfield 218, 3) := by decide +kernel
theorem dX11_order_142 : decode cX11_order 142 = .ok (.iload_n 1, 1) := by decide +kernel
theorem dX11_order_143 : decode cX11_order 143 = .ok (.iaload, 1) := by decide +kernel
theorem dX11_order_144 : decode cX11_order 144 = .ok (.ireturn, 1) := by decide +kernel
set_option maxRecDepth 100000 in
set_option maxHeartbeats 4000000 in
theorem X11_order_L36_bok {g : Gm} {w : Wd} (C : Cx g w RX11 cX11_order 7 (some .int)) {lv : Nat} (hlv : 8 < lv) {N : Nat} {k54 : Nat → Int → Int → Mem → Option (Int × Mem)} {r36 : Nat → Int → Int → Int → Mem → Option (Int × Mem)} {l0 : Nat} {l1 : Int} {l2 : Int} {l3 : Int} {m : Mem} {out : (Int × Mem)} (hk54 : ∀ l0 l1 l2 m, k54 l0 l1 l2 m = some out → Jd g w 7 (rmL lv 0 0) (Qm g w (some (vI out.1)) out.2) 54 [some (vR l0), some (vI l1), some (vI l2), none, none, none, none] [] 312 m 0 0) (hr36 : ∀ l0 l1 l2 l3 m, r36 l0 l1 l2 l3 m = some out → Jd g w 7 (rmL lv 0 0) (Qm g w (some (vI out.1)) out.2) 36 [some (vR l0), some (vI l1), some (vI l2), some (vI l3), none, none, none] [] 312 m 0 0) (h : X11_order_L36_b N k54 r36 l0 l1 l2 l3 m = some out) : Jd g w 7 (rmL lv 0 0) (Qm g w (some (vI out.1)) out.2) 36 [some (vR l0), some (vI l1), some (vI l2), some (vI l3), none, none, none] [] 312 m 0 0 := by
  unfold X11_order_L36_b at h
  refine j_iload_n C dX11_order_36 rfl ?_
  refine j_iload_n C dX11_order_37 rfl ?_
  refine j_icmp_ge C 54 dX11_order_38 rfl h (fun c5 h => ?_) (fun c5 h => ?_)
  · refine j_mask [true, true, true, false, false, false, false] (ls' := [some (vR _), some (vI _), some (vI _), none, none, none, none]) rfl ?_
    exact hk54 _ _ _ _ h
  · refine j_aload_n C dX11_order_41 rfl ?_
    refine j_getR C dX11_order_42 CF11 (by decide) fl_X11_215 rfl rfl h (fun t3 h => ?_)
    refine j_iload_n C dX11_order_45 rfl ?_
    refine j_iload_n C dX11_order_46 rfl ?_
    refine j_iast C dX11_order_47 rfl h (fun m4 h => ?_)
    refine j_iinc (ls' := [some (vR _), some (vI _), some (vI _), some (vI _), none, none, none]) C dX11_order_48 rfl (by decide) rfl ?_
    refine j_goto C 36 dX11_order_51 rfl ?_
    exact hr36 _ _ _ _ _ h
set_option maxRecDepth 100000 in
set_option maxHeartbeats 4000000 in
theorem X11_order_L36_ok {g : Gm} {w : Wd} (C : Cx g w RX11 cX11_order 7 (some .int)) {lv : Nat} (hlv : 8 < lv) {N : Nat} {k54 : Nat → Int → Int → Mem → Option (Int × Mem)} {out : (Int × Mem)} (hk54 : ∀ l0 l1 l2 m, k54 l0 l1 l2 m = some out → Jd g w 7 (rmL lv 0 0) (Qm g w (some (vI out.1)) out.2) 54 [some (vR l0), some (vI l1), some (vI l2), none, none, none, none] [] 312 m 0 0) (f : Nat) : ∀ {l0 : Nat} {l1 : Int} {l2 : Int} {l3 : Int} {m : Mem}, X11_order_L36 N k54 f l0 l1 l2 l3 m = some out → Jd g w 7 (rmL lv 0 0) (Qm g w (some (vI out.1)) out.2) 36 [some (vR l0), some (vI l1), some (vI l2), some (vI l3), none, none, none] [] 312 m 0 0 := by
  induction f with
  | zero => intro l0 l1 l2 l3 m h; exact none_ne (α := (Int × Mem)) h
  | succ f ih => intro l0 l1 l2 l3 m h; exact X11_order_L36_bok C hlv hk54 (fun l0 l1 l2 l3 m h => ih h) h
set_option maxRecDepth 100000 in
set_option maxHeartbeats 4000000 in
theorem X11_order_L74_bok {g : Gm} {w : Wd} (C : Cx g w RX11 cX11_order 7 (some .int)) {lv : Nat} (hlv : 8 < lv) {N : Nat} {k106 : Nat → Int → Int → Int → Int → Mem → Option (Int × Mem)} {r74 : Nat → Int → Int → Int → Int → Int → Mem → Option (Int × Mem)} {l0 : Nat} {l1 : Int} {l2 : Int} {l3 : Int} {l5 : Int} {l6 : Int} {m : Mem} {out : (Int × Mem)} (hk106 : ∀ l0 l1 l2 l3 l5 m, k106 l0 l1 l2 l3 l5 m = some out → Jd g w 7 (rmL lv 0 0) (Qm g w (some (vI out.1)) out.2) 106 [some (vR l0), some (vI l1), some (vI l2), some (vI l3), none, some (vI l5), none] [] 312 m 0 0) (hr74 : ∀ l0 l1 l2 l3 l5 l6 m, r74 l0 l1 l2 l3 l5 l6 m = some out → Jd g w 7 (rmL lv 0 0) (Qm g w (some (vI out.1)) out.2) 74 [some (vR l0), some (vI l1), some (vI l2), some (vI l3), none, some (vI l5), some (vI l6)] [] 312 m 0 0) (h : X11_order_L74_b N k106 r74 l0 l1 l2 l3 l5 l6 m = some out) : Jd g w 7 (rmL lv 0 0) (Qm g w (some (vI out.1)) out.2) 74 [some (vR l0), some (vI l1), some (vI l2), some (vI l3), none, some (vI l5), some (vI l6)] [] 312 m 0 0 := by
  unfold X11_order_L74_b at h
  refine j_iload C dX11_order_74 rfl ?_
  refine j_iload_n C dX11_order_76 rfl ?_
  refine j_icmp_ge C 106 dX11_order_77 rfl h (fun c16 h => ?_) (fun c16 h => ?_)
  · refine j_mask [true, true, true, true, false, true, false] (ls' := [some (vR _), some (vI _), some (vI _), some (vI _), none, some (vI _), none]) rfl ?_
    exact hk106 _ _ _ _ _ _ h
  · refine j_iload C dX11_order_80 rfl ?_
    refine j_iload_n C dX11_order_82 rfl ?_
    refine j_icmp_le C 106 dX11_order_83 rfl h (fun c15 h => ?_) (fun c15 h => ?_)
    · refine j_mask [true, true, true, true, false, true, false] (ls' := [some (vR _), some (vI _), some (vI _), some (vI _), none, some (vI _), none]) rfl ?_
      exact hk106 _ _ _ _ _ _ h
    · refine j_aload_n C dX11_order_86 rfl ?_
      refine j_getR C dX11_order_87 CF11 (by decide) fl_X11_218 rfl rfl h (fun t11 h => ?_)
      refine j_iload C dX11_order_90 rfl ?_
      refine j_aload_n C dX11_order_92 rfl ?_
      refine j_getR C dX11_order_93 CF11 (by decide) fl_X11_215 rfl rfl h (fun t12 h => ?_)
      refine j_iload C dX11_order_96 rfl ?_
      refine j_iald C dX11_order_98 rfl h (fun t13 h => ?_)
      refine j_iast C dX11_order_99 rfl h (fun m14 h => ?_)
      refine j_iinc (ls' := [some (vR _), some (vI _), some (vI _), some (vI _), none, some (vI _), some (vI _)]) C dX11_order_100 rfl (by decide) rfl ?_
      refine j_goto C 74 dX11_order_103 rfl ?_
      exact hr74 _ _ _ _ _ _ _ h
set_option maxRecDepth 100000 in
set_option maxHeartbeats 4000000 in
theorem X11_order_L74_ok {g : Gm} {w : Wd} (C : Cx g w RX11 cX11_order 7 (some .int)) {lv : Nat} (hlv : 8 < lv) {N : Nat} {k106 : Nat → Int → Int → Int → Int → Mem → Option (Int × Mem)} {out : (Int × Mem)} (hk106 : ∀ l0 l1 l2 l3 l5 m, k106 l0 l1 l2 l3 l5 m = some out → Jd g w 7 (rmL lv 0 0) (Qm g w (some (vI out.1)) out.2) 106 [some (vR l0), some (vI l1), some (vI l2), some (vI l3), none, some (vI l5), none] [] 312 m 0 0) (f : Nat) : ∀ {l0 : Nat} {l1 : Int} {l2 : Int} {l3 : Int} {l5 : Int} {l6 : Int} {m : Mem}, X11_order_L74 N k106 f l0 l1 l2 l3 l5 l6 m = some out → Jd g w 7 (rmL lv 0 0) (Qm g w (some (vI out.1)) out.2) 74 [some (vR l0), some (vI l1), some (vI l2), some (vI l3), none, some (vI l5), some (vI l6)] [] 312 m 0 0 := by
  induction f with
  | zero => intro l0 l1 l2 l3 l5 l6 m h; exact none_ne (α := (Int × Mem)) h
  | succ f ih => intro l0 l1 l2 l3 l5 l6 m h; exact X11_order_L74_bok C hlv hk106 (fun l0 l1 l2 l3 l5 l6 m h => ih h) h
set_option maxRecDepth 100000 in
set_option maxHeartbeats 4000000 in
theorem X11_order_J118_ok {g : Gm} {w : Wd} (C : Cx g w RX11 cX11_order 7 (some .int)) {lv : Nat} (hlv : 8 < lv) {N : Nat} {r59 : Nat → Int → Int → Int → Int → Mem → Option (Int × Mem) } {l0 : Nat} {l1 : Int} {l2 : Int} {s0 : Int} {m : Mem} {out : (Int × Mem)} (hr59 : ∀ l0 l1 l2 l3 l4 m, r59 l0 l1 l2 l3 l4 m = some out → Jd g w 7 (rmL lv 0 0) (Qm g w (some (vI out.1)) out.2) 59 [some (vR l0), some (vI l1), some (vI l2), some (vI l3), some (vI l4), none, none] [] 312 m 0 0) (h : X11_order_J118 N r59 l0 l1 l2 s0 m = some out) : Jd g w 7 (rmL lv 0 0) (Qm g w (some (vI out.1)) out.2) 118 [some (vR l0), some (vI l1), some (vI l2), none, none, none, none] [vI s0] 312 m 0 0 := by
  unfold X11_order_J118 at h
  refine j_istore_n (ls' := [some (vR _), some (vI _), some (vI _), some (vI _), none, none, none]) C dX11_order_118 (by decide) rfl ?_
  refine j_aload_n C dX11_order_119 rfl ?_
  refine j_iload_n C dX11_order_120 rfl ?_
  obtain ⟨p23, ep23, h⟩ := bind_some h
  have qp23 := X11_nextOrder_ct ep23
  refine j_cVI C dX11_order_121 vl_X11_582 CF11 rfl qp23.1 qp23.2 (by omega) rfl rfl (Nat.le_of_ble_eq_true rfl) ?_
  refine j_istore (ls' := [some (vR _), some (vI _), some (vI _), some (vI _), some (vI _), none, none]) C dX11_order_124 (by decide) rfl ?_
  refine j_goto C 59 dX11_order_126 rfl ?_
  exact hr59 _ _ _ _ _ _ h
set_option maxRecDepth 100000 in
set_option maxHeartbeats 4000000 in
theorem X11_order_L59_bok {g : Gm} {w : Wd} (C : Cx g w RX11 cX11_order 7 (some .int)) {lv : Nat} (hlv : 8 < lv) {N : Nat} {k129 : Nat → Int → Int → Mem → Option (Int × Mem)} {r59 : Nat → Int → Int → Int → Int → Mem → Option (Int × Mem)} {l0 : Nat} {l1 : Int} {l2 : Int} {l3 : Int} {l4 : Int} {m : Mem} {out : (Int × Mem)} (hk129 : ∀ l0 l1 l3 m, k129 l0 l1 l3 m = some out → Jd g w 7 (rmL lv 0 0) (Qm g w (some (vI out.1)) out.2) 129 [some (vR l0), some (vI l1), none, some (vI l3), none, none, none] [] 312 m 0 0) (hr59 : ∀ l0 l1 l2 l3 l4 m, r59 l0 l1 l2 l3 l4 m = some out → Jd g w 7 (rmL lv 0 0) (Qm g w (some (vI out.1)) out.2) 59 [some (vR l0), some (vI l1), some (vI l2), some (vI l3), some (vI l4), none, none] [] 312 m 0 0) (h : X11_order_L59_b N k129 r59 l0 l1 l2 l3 l4 m = some out) : Jd g w 7 (rmL lv 0 0) (Qm g w (some (vI out.1)) out.2) 59 [some (vR l0), some (vI l1), some (vI l2), some (vI l3), some (vI l4), none, none] [] 312 m 0 0 := by
  unfold X11_order_L59_b at h
  refine j_iload C dX11_order_59 rfl ?_
  refine j_if_eq C 129 dX11_order_61 rfl h (fun c25 h => ?_) (fun c25 h => ?_)
  · refine j_mask [true, true, false, true, false, false, false] (ls' := [some (vR _), some (vI _), none, some (vI _), none, none, none]) rfl ?_
    exact hk129 _ _ _ _ h
  · refine j_aload_n C dX11_order_64 rfl ?_
    refine j_iload_n C dX11_order_65 rfl ?_
    obtain ⟨p10, ep10, h⟩ := bind_some h
    have qp10 := X11_gotBy_ct ep10
    refine j_cVI C dX11_order_66 vl_X11_579 CF11 rfl qp10.1 qp10.2 (by omega) rfl rfl (Nat.le_of_ble_eq_true rfl) ?_
    refine j_istore (ls' := [some (vR _), some (vI _), some (vI _), some (vI _), some (vI _), some (vI _), none]) C dX11_order_69 (by decide) rfl ?_
    refine j_iconst C dX11_order_71 rfl ?_
    refine j_istore (ls' := [some (vR _), some (vI _), some (vI _), some (vI _), some (vI _), some (vI _), some (vI _)]) C dX11_order_72 (by decide) rfl ?_
    refine j_mask [true, true, true, true, false, true, true] (ls' := [some (vR _), some (vI _), some (vI _), some (vI _), none, some (vI _), some (vI _)]) rfl ?_
    refine X11_order_L74_ok C hlv (fun z17 z18 z19 z20 z21 m22 h => ?_) N h
    refine j_iload C dX11_order_106 rfl ?_
    refine j_iload_n C dX11_order_108 rfl ?_
    refine j_icmp_le C 117 dX11_order_109 rfl h (fun c24 h => ?_) (fun c24 h => ?_)
    · refine j_iload_n C dX11_order_117 rfl ?_
      refine j_mask [true, true, true, false, false, false, false] (ls' := [some (vR _), some (vI _), some (vI _), none, none, none, none]) rfl ?_
      exact X11_order_J118_ok C hlv hr59 h
    · refine j_iload C dX11_order_112 rfl ?_
      refine j_goto C 118 dX11_order_114 rfl ?_
      refine j_mask [true, true, true, false, false, false, false] (ls' := [some (vR _), some (vI _), some (vI _), none, none, none, none]) rfl ?_
      exact X11_order_J118_ok C hlv hr59 h
set_option maxRecDepth 100000 in
set_option maxHeartbeats 4000000 in
theorem X11_order_L59_ok {g : Gm} {w : Wd} (C : Cx g w RX11 cX11_order 7 (some .int)) {lv : Nat} (hlv : 8 < lv) {N : Nat} {k129 : Nat → Int → Int → Mem → Option (Int × Mem)} {out : (Int × Mem)} (hk129 : ∀ l0 l1 l3 m, k129 l0 l1 l3 m = some out → Jd g w 7 (rmL lv 0 0) (Qm g w (some (vI out.1)) out.2) 129 [some (vR l0), some (vI l1), none, some (vI l3), none, none, none] [] 312 m 0 0) (f : Nat) : ∀ {l0 : Nat} {l1 : Int} {l2 : Int} {l3 : Int} {l4 : Int} {m : Mem}, X11_order_L59 N k129 f l0 l1 l2 l3 l4 m = some out → Jd g w 7 (rmL lv 0 0) (Qm g w (some (vI out.1)) out.2) 59 [some (vR l0), some (vI l1), some (vI l2), some (vI l3), some (vI l4), none, none] [] 312 m 0 0 := by
  induction f with
  | zero => intro l0 l1 l2 l3 l4 m h; exact none_ne (α := (Int × Mem)) h
  | succ f ih => intro l0 l1 l2 l3 l4 m h; exact X11_order_L59_bok C hlv hk129 (fun l0 l1 l2 l3 l4 m h => ih h) h
set_option maxRecDepth 100000 in
set_option maxHeartbeats 4000000 in
theorem X11_order_J29_ok {g : Gm} {w : Wd} (C : Cx g w RX11 cX11_order 7 (some .int)) {lv : Nat} (hlv : 8 < lv) {N : Nat} {l0 : Nat} {l1 : Int} {l2 : Int} {m : Mem} {out : (Int × Mem)} (h : X11_order_J29 N l0 l1 l2 m = some out) : Jd g w 7 (rmL lv 0 0) (Qm g w (some (vI out.1)) out.2) 29 [some (vR l0), some (vI l1), some (vI l2), none, none, none, none] [] 312 m 0 0 := by
  unfold X11_order_J29 at h
  refine j_aload_n C dX11_order_29 rfl ?_
  refine j_iconst C dX11_order_30 rfl ?_
  obtain ⟨p2, ep2, h⟩ := bind_some h
  have qp2 := X11_nightAsTold_ct ep2
  refine j_cVV C dX11_order_31 vl_X11_544 CF11 rfl qp2.1 qp2.2 (by omega) rfl rfl (Nat.le_of_ble_eq_true rfl) ?_
  refine j_iconst C dX11_order_34 rfl ?_
  refine j_istore_n (ls' := [some (vR _), some (vI _), some (vI _), some (vI _), none, none, none]) C dX11_order_35 (by decide) rfl ?_
  refine X11_order_L36_ok C hlv (fun z6 z7 z8 m9 h => ?_) N h
  refine j_iconst C dX11_order_54 rfl ?_
  refine j_istore_n (ls' := [some (vR _), some (vI _), some (vI _), some (vI _), none, none, none]) C dX11_order_55 (by decide) rfl ?_
  refine j_iconst C dX11_order_56 rfl ?_
  refine j_istore (ls' := [some (vR _), some (vI _), some (vI _), some (vI _), some (vI _), none, none]) C dX11_order_57 (by decide) rfl ?_
  refine X11_order_L59_ok C hlv (fun z26 z27 z28 m29 h => ?_) N h
  refine j_iload_n C dX11_order_129 rfl ?_
  refine j_iconst C dX11_order_130 rfl ?_
  refine j_icmp_ne C 138 dX11_order_131 rfl h (fun c32 h => ?_) (fun c32 h => ?_)
  · refine j_aload_n C dX11_order_138 rfl ?_
    refine j_getR C dX11_order_139 CF11 (by decide) fl_X11_218 rfl rfl h (fun t30 h => ?_)
    refine j_iload_n C dX11_order_142 rfl ?_
    refine j_iald C dX11_order_143 rfl h (fun t31 h => ?_)
    have e := Option.some.inj h
    subst e
    exact j_ri C dX11_order_144 rfl rfl rfl
  · refine j_iload_n C dX11_order_134 rfl ?_
    refine j_goto C 144 dX11_order_135 rfl ?_
    have e := Option.some.inj h
    subst e
    exact j_ri C dX11_order_144 rfl rfl rfl
set_option maxRecDepth 100000 in
set_option maxHeartbeats 4000000 in
theorem X11_order_ct {N : Nat} {l0 : Nat} {l1 : Int} {m : Mem} {out : (Int × Mem)} (h : X11_order N l0 l1 m = some out) : shK l0 = 11 + 10 ∧ CT yX11_order cX11_order 7 (some .int) 9 0 0 [vR l0, vI l1] 312 m (some (vI out.1)) 312 out.2 := by
  unfold X11_order at h
  obtain ⟨hK, h⟩ := ite_some h
  have hlv : 8 < 9 := by decide
  refine ⟨hK, CT.of (by decide +kernel) rfl (Nat.le_of_ble_eq_true rfl) (ls := [some (vR l0), some (vI l1), none, none, none, none, none]) rfl fun g w C _ => ?_⟩
  refine j_aload_n C dX11_order_0 rfl ?_
  obtain ⟨p1, ep1, h⟩ := bind_some h
  have qp1 := X11_cloths_ct ep1
  refine j_cVI C dX11_order_1 vl_X11_524 CF11 rfl qp1.1 qp1.2 (by omega) rfl rfl (Nat.le_of_ble_eq_true rfl) ?_
  refine j_istore_n (ls' := [some (vR _), some (vI _), some (vI _), none, none, none, none]) C dX11_order_4 (by decide) rfl ?_
  refine j_iload_n C dX11_order_5 rfl ?_
  refine j_bipush C dX11_order_6 rfl ?_
  refine j_icmp_gt C 27 dX11_order_8 rfl h (fun c36 h => ?_) (fun c36 h => ?_)
  · refine j_iconst C dX11_order_27 rfl ?_
    have e := Option.some.inj h
    subst e
    exact j_ri C dX11_order_28 rfl rfl rfl
  · refine j_iload_n C dX11_order_11 rfl ?_
    refine j_iconst C dX11_order_12 rfl ?_
    refine j_icmp_eq C 29 dX11_order_13 rfl h (fun c35 h => ?_) (fun c35 h => ?_)
    · exact X11_order_J29_ok C hlv h
    · refine j_iload_n C dX11_order_16 rfl ?_
      refine j_iconst C dX11_order_17 rfl ?_
      refine j_iload_n C dX11_order_18 rfl ?_
      refine j_iconst C dX11_order_19 rfl ?_
      refine j_isub C dX11_order_20 ?_
      obtain ⟨p33, ep33, h⟩ := bind_some h
      have qp33 := X11_is_ct ep33
      refine j_cSI C dX11_order_21 sl_X11_334 qp33 (by omega) rfl rfl (Nat.le_of_ble_eq_true rfl) ?_
      refine j_if_ne C 29 dX11_order_24 rfl h (fun c34 h => ?_) (fun c34 h => ?_)
      · exact X11_order_J29_ok C hlv h
      · refine j_iconst C dX11_order_27 rfl ?_
        have e := Option.some.inj h
        subst e
        exact j_ri C dX11_order_28 rfl rfl rfl
