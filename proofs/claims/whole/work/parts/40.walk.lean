theorem dX11_seed_0 : decode cX11_seed 0 = .ok (.iload_n 1, 1) := by decide +kernel
theorem dX11_seed_1 : decode cX11_seed 1 = .ok (.ifCond .ge 17, 3) := by decide +kernel
theorem dX11_seed_4 : decode cX11_seed 4 = .ok (.aload_n 0, 1) := by decide +kernel
theorem dX11_seed_5 : decode cX11_seed 5 = .ok (.iconst 5, 1) := by decide +kernel
theorem dX11_seed_6 : decode cX11_seed 6 = .ok (.invokevirtual 248, 3) := by decide +kernel
theorem dX11_seed_9 : decode cX11_seed 9 = .ok (.ifCond .lt 7, 3) := by decide +kernel
theorem dX11_seed_12 : decode cX11_seed 12 = .ok (.iconst 1, 1) := by decide +kernel
theorem dX11_seed_13 : decode cX11_seed 13 = .ok (.goto 4, 3) := by decide +kernel
theorem dX11_seed_16 : decode cX11_seed 16 = .ok (.iconst 0, 1) := by decide +kernel
theorem dX11_seed_17 : decode cX11_seed 17 = .ok (.ireturn, 1) := by decide +kernel
theorem dX11_seed_18 : decode cX11_seed 18 = .ok (.aload_n 0, 1) := by decide +kernel
theorem dX11_seed_19 : decode cX11_seed 19 = .ok (.iload_n 1, 1) := by decide +kernel
theorem dX11_seed_20 : decode cX11_seed 20 = .ok (.i2l, 1) := by decide +kernel
theorem dX11_seed_21 : decode cX11_seed 21 = .ok (.putfield 182, 3) := by decide +kernel
theorem dX11_seed_24 : decode cX11_seed 24 = .ok (.iconst 1, 1) := by decide +kernel
theorem dX11_seed_25 : decode cX11_seed 25 = .ok (.ireturn, 1) := by decide +kernel
set_option maxRecDepth 100000 in
set_option maxHeartbeats 4000000 in
theorem X11_seed_ct {l0 : Nat} {l1 : Int} {m : Mem} {out : (Int × Mem)} (h : X11_seed l0 l1 m = some out) : shK l0 = 11 + 10 ∧ CT yX11_seed cX11_seed 2 (some .boolean) 2 0 0 [vR l0, vI l1] 312 m (some (vI out.1)) 312 out.2 := by
  unfold X11_seed at h
  obtain ⟨hK, h⟩ := ite_some h
  have hlv : 1 < 2 := by decide
  refine ⟨hK, CT.of (by decide +kernel) rfl (Nat.le_of_ble_eq_true rfl) (ls := [some (vR l0), some (vI l1)]) rfl fun g w C _ => ?_⟩
  refine j_iload_n C dX11_seed_0 rfl ?_
  refine j_if_ge C 18 dX11_seed_1 rfl h (fun c7 h => ?_) (fun c7 h => ?_)
  · refine j_aload_n C dX11_seed_18 rfl ?_
    refine j_iload_n C dX11_seed_19 rfl ?_
    refine j_i2l C dX11_seed_20 ?_
    refine j_putL C dX11_seed_21 CF11 (by decide) fl_X11_182 rfl rfl rfl rfl h (fun m1 h => ?_)
    refine j_iconst C dX11_seed_24 rfl ?_
    obtain ⟨r2, er2, h⟩ := bind_some h
    have e := Option.some.inj h
    subst e
    exact j_rz C dX11_seed_25 rfl (retZ_some er2) rfl
  · refine j_aload_n C dX11_seed_4 rfl ?_
    refine j_iconst C dX11_seed_5 rfl ?_
    obtain ⟨p3, ep3, h⟩ := bind_some h
    have qp3 := X11_refuses_ct ep3
    refine j_cVI C dX11_seed_6 vl_X11_248 CF11 rfl qp3.1 qp3.2 (by omega) rfl rfl (Nat.le_of_ble_eq_true rfl) ?_
    refine j_if_lt C 16 dX11_seed_9 rfl h (fun c6 h => ?_) (fun c6 h => ?_)
    · refine j_iconst C dX11_seed_16 rfl ?_
      obtain ⟨r4, er4, h⟩ := bind_some h
      have e := Option.some.inj h
      subst e
      exact j_rz C dX11_seed_17 rfl (retZ_some er4) rfl
    · refine j_iconst C dX11_seed_12 rfl ?_
      refine j_goto C 17 dX11_seed_13 rfl ?_
      obtain ⟨r5, er5, h⟩ := bind_some h
      have e := Option.some.inj h
      subst e
      exact j_rz C dX11_seed_17 rfl (retZ_some er5) rfl
theorem dX11_sky_0 : decode cX11_sky 0 = .ok (.iload_n 1, 1) := by decide +kernel
theorem dX11_sky_1 : decode cX11_sky 1 = .ok (.iconst 1, 1) := by decide +kernel
theorem dX11_sky_2 : decode cX11_sky 2 = .ok (.bipush 12, 2) := by decide +kernel
theorem dX11_sky_4 : decode cX11_sky 4 = .ok (.invokestatic 334, 3) := by decide +kernel
theorem dX11_sky_7 : decode cX11_sky 7 = .ok (.ifCond .eq 22, 3) := by decide +kernel
theorem dX11_sky_10 : decode cX11_sky 10 = .ok (.aload_n 0, 1) := by decide +kernel
theorem dX11_sky_11 : decode cX11_sky 11 = .ok (.getfield 93, 3) := by decide +kernel
theorem dX11_sky_14 : decode cX11_sky 14 = .ok (.bipush 12, 2) := by decide +kernel
theorem dX11_sky_16 : decode cX11_sky 16 = .ok (.aload_n 0, 1) := by decide +kernel
theorem dX11_sky_17 : decode cX11_sky 17 = .ok (.getfield 51, 3) := by decide +kernel
theorem dX11_sky_20 : decode cX11_sky 20 = .ok (.imul, 1) := by decide +kernel
theorem dX11_sky_21 : decode cX11_sky 21 = .ok (.iload_n 1, 1) := by decide +kernel
theorem dX11_sky_22 : decode cX11_sky 22 = .ok (.iadd, 1) := by decide +kernel
theorem dX11_sky_23 : decode cX11_sky 23 = .ok (.iconst 1, 1) := by decide +kernel
theorem dX11_sky_24 : decode cX11_sky 24 = .ok (.isub, 1) := by decide +kernel
theorem dX11_sky_25 : decode cX11_sky 25 = .ok (.iaload, 1) := by decide +kernel
theorem dX11_sky_26 : decode cX11_sky 26 = .ok (.goto 4, 3) := by decide +kernel
theorem dX11_sky_29 : decode cX11_sky 29 = .ok (.iconst (-1), 1) := by decide +kernel
theorem dX11_sky_30 : decode cX11_sky 30 = .ok (.ireturn, 1) := by decide +kernel
set_option maxRecDepth 100000 in
set_option maxHeartbeats 4000000 in
theorem X11_sky_ct {l0 : Nat} {l1 : Int} {m : Mem} {out : Int} (h : X11_sky l0 l1 m = some out) : shK l0 = 11 + 10 ∧ CT yX11_sky cX11_sky 2 (some .int) 2 0 0 [vR l0, vI l1] 312 m (some (vI out)) 312 m := by
  unfold X11_sky at h
  obtain ⟨hK, h⟩ := ite_some h
  have hlv : 1 < 2 := by decide
  refine ⟨hK, CT.of (by decide +kernel) rfl (Nat.le_of_ble_eq_true rfl) (ls := [some (vR l0), some (vI l1)]) rfl fun g w C _ => ?_⟩
  refine j_iload_n C dX11_sky_0 rfl ?_
  refine j_iconst C dX11_sky_1 rfl ?_
  refine j_bipush C dX11_sky_2 rfl ?_
  obtain ⟨p1, ep1, h⟩ := bind_some h
  have qp1 := X11_is_ct ep1
  refine j_cSI C dX11_sky_4 sl_X11_334 qp1 (by omega) rfl rfl (Nat.le_of_ble_eq_true rfl) ?_
  refine j_if_eq C 29 dX11_sky_7 rfl h (fun c5 h => ?_) (fun c5 h => ?_)
  · refine j_iconst C dX11_sky_29 rfl ?_
    exact j_ri C dX11_sky_30 rfl (Option.some.inj h).symm rfl
  · refine j_aload_n C dX11_sky_10 rfl ?_
    refine j_getR C dX11_sky_11 CF11 (by decide) fl_X11_93 rfl rfl h (fun t2 h => ?_)
    refine j_bipush C dX11_sky_14 rfl ?_
    refine j_aload_n C dX11_sky_16 rfl ?_
    refine j_getI C dX11_sky_17 CF11 (by decide) fl_X11_51 rfl rfl h (fun t3 h => ?_)
    refine j_imul C dX11_sky_20 ?_
    refine j_iload_n C dX11_sky_21 rfl ?_
    refine j_iadd C dX11_sky_22 ?_
    refine j_iconst C dX11_sky_23 rfl ?_
    refine j_isub C dX11_sky_24 ?_
    refine j_iald C dX11_sky_25 rfl h (fun t4 h => ?_)
    refine j_goto C 30 dX11_sky_26 rfl ?_
    exact j_ri C dX11_sky_30 rfl (Option.some.inj h).symm rfl
theorem dX11_status_0 : decode cX11_status 0 = .ok (.iload_n 1, 1) := by decide +kernel
theorem dX11_status_1 : decode cX11_status 1 = .ok (.iconst 0, 1) := by decide +kernel
theorem dX11_status_2 : decode cX11_status 2 = .ok (.iconst 5, 1) := by decide +kernel
theorem dX11_status_3 : decode cX11_status 3 = .ok (.invokestatic 334, 3) := by decide +kernel
theorem dX11_status_6 : decode cX11_status 6 = .ok (.ifCond .eq 12, 3) := by decide +kernel
theorem dX11_status_9 : decode cX11_status 9 = .ok (.aload_n 0, 1) := by decide +kernel
theorem dX11_status_10 : decode cX11_status 10 = .ok (.getfield 161, 3) := by decide +kernel
theorem dX11_status_13 : decode cX11_status 13 = .ok (.iload_n 1, 1) := by decide +kernel
theorem dX11_status_14 : decode cX11_status 14 = .ok (.iaload, 1) := by decide +kernel
theorem dX11_status_15 : decode cX11_status 15 = .ok (.goto 4, 3) := by decide +kernel
theorem dX11_status_18 : decode cX11_status 18 = .ok (.iconst (-1), 1) := by decide +kernel
theorem dX11_status_19 : decode cX11_status 19 = .ok (.ireturn, 1) := by decide +kernel
set_option maxRecDepth 100000 in
set_option maxHeartbeats 4000000 in
theorem X11_status_ct {l0 : Nat} {l1 : Int} {m : Mem} {out : Int} (h : X11_status l0 l1 m = some out) : shK l0 = 11 + 10 ∧ CT yX11_status cX11_status 2 (some .int) 2 0 0 [vR l0, vI l1] 312 m (some (vI out)) 312 m := by
  unfold X11_status at h
  obtain ⟨hK, h⟩ := ite_some h
  have hlv : 1 < 2 := by decide
  refine ⟨hK, CT.of (by decide +kernel) rfl (Nat.le_of_ble_eq_true rfl) (ls := [some (vR l0), some (vI l1)]) rfl fun g w C _ => ?_⟩
  refine j_iload_n C dX11_status_0 rfl ?_
  refine j_iconst C dX11_status_1 rfl ?_
  refine j_iconst C dX11_status_2 rfl ?_
  obtain ⟨p1, ep1, h⟩ := bind_some h
  have qp1 := X11_is_ct ep1
  refine j_cSI C dX11_status_3 sl_X11_334 qp1 (by omega) rfl rfl (Nat.le_of_ble_eq_true rfl) ?_
  refine j_if_eq C 18 dX11_status_6 rfl h (fun c4 h => ?_) (fun c4 h => ?_)
  · refine j_iconst C dX11_status_18 rfl ?_
    exact j_ri C dX11_status_19 rfl (Option.some.inj h).symm rfl
  · refine j_aload_n C dX11_status_9 rfl ?_
    refine j_getR C dX11_status_10 CF11 (by decide) fl_X11_161 rfl rfl h (fun t2 h => ?_)
    refine j_iload_n C dX11_status_13 rfl ?_
    refine j_iald C dX11_status_14 rfl h (fun t3 h => ?_)
    refine j_goto C 19 dX11_status_15 rfl ?_
    exact j_ri C dX11_status_19 rfl (Option.some.inj h).symm rfl
theorem dX11_stores_0 : decode cX11_stores 0 = .ok (.iload_n 1, 1) := by decide +kernel
theorem dX11_stores_1 : decode cX11_stores 1 = .ok (.iconst 0, 1) := by decide +kernel
theorem dX11_stores_2 : decode cX11_stores 2 = .ok (.iconst 1, 1) := by decide +kernel
theorem dX11_stores_3 : decode cX11_stores 3 = .ok (.invokestatic 334, 3) := by decide +kernel
theorem dX11_stores_6 : decode cX11_stores 6 = .ok (.ifCond .eq 10, 3) := by decide +kernel
theorem dX11_stores_9 : decode cX11_stores 9 = .ok (.aload_n 0, 1) := by decide +kernel
theorem dX11_stores_10 : decode cX11_stores 10 = .ok (.invokevirtual 553, 3) := by decide +kernel
theorem dX11_stores_13 : decode cX11_stores 13 = .ok (.ifCond .ne 5, 3) := by decide +kernel
theorem dX11_stores_16 : decode cX11_stores 16 = .ok (.iconst (-1), 1) := by decide +kernel
theorem dX11_stores_17 : decode cX11_stores 17 = .ok (.ireturn, 1) := by decide +kernel
theorem dX11_stores_18 : decode cX11_stores 18 = .ok (.aload_n 0, 1) := by decide +kernel
theorem dX11_stores_19 : decode cX11_stores 19 = .ok (.iconst 0, 1) := by decide +kernel
theorem dX11_stores_20 : decode cX11_stores 20 = .ok (.invokevirtual 544, 3) := by decide +kernel
theorem dX11_stores_23 : decode cX11_stores 23 = .ok (.aload_n 0, 1) := by decide +kernel
theorem dX11_stores_24 : decode cX11_stores 24 = .ok (.iconst 1, 1) := by decide +kernel
theorem dX11_stores_25 : decode cX11_stores 25 = .ok (.iconst 0, 1) := by decide +kernel
theorem dX11_stores_26 : decode cX11_stores 26 = .ok (.invokevirtual 448, 3) := by decide +kernel
theorem dX11_stores_29 : decode cX11_stores 29 = .ok (.iconst 1, 1) := by decide +kernel
theorem dX11_stores_30 : decode cX11_stores 30 = .ok (.istore_n 2, 1) := by decide +kernel
theorem dX11_stores_31 : decode cX11_stores 31 = .ok (.iload_n 2, 1) := by decide +kernel
theorem dX11_stores_32 : decode cX11_stores 32 = .ok (.sipush 1000, 3) := by decide +kernel
theorem dX11_stores_35 : decode cX11_stores 35 = .ok (.if_icmp .ge 109, 3) := by decide +kernel
theorem dX11_stores_38 : decode cX11_stores 38 = .ok (.iconst 0, 1) := by decide +kernel
theorem dX11_stores_39 : decode cX11_stores 39 = .ok (.istore_n 3, 1) := by decide +kernel
theorem dX11_stores_40 : decode cX11_stores 40 = .ok (.iload_n 3, 1) := by decide +kernel
theorem dX11_stores_41 : decode cX11_stores 41 = .ok (.aload_n 0, 1) := by decide +kernel
theorem dX11_stores_42 : decode cX11_stores 42 = .ok (.getfield 75, 3) := by decide +kernel
theorem dX11_stores_45 : decode cX11_stores 45 = .ok (.aload_n 0, 1) := by decide +kernel
theorem dX11_stores_46 : decode cX11_stores 46 = .ok (.getfield 51, 3) := by decide +kernel
theorem dX11_stores_49 : decode cX11_stores 49 = .ok (.iaload, 1) := by decide +kernel
theorem dX11_stores_50 : decode cX11_stores 50 = .ok (.if_icmp .ge 88, 3) := by decide +kernel
theorem dX11_stores_53 : decode cX11_stores 53 = .ok (.aload_n 0, 1) := by decide +kernel
theorem dX11_stores_54 : decode cX11_stores 54 = .ok (.getfield 173, 3) := by decide +kernel
theorem dX11_stores_57 : decode cX11_stores 57 = .ok (.iconst 5, 1) := by decide +kernel
theorem dX11_stores_58 : decode cX11_stores 58 = .ok (.iload_n 3, 1) := by decide +kernel
theorem dX11_stores_59 : decode cX11_stores 59 = .ok (.iadd, 1) := by decide +kernel
theorem dX11_stores_60 : decode cX11_stores 60 = .ok (.iaload, 1) := by decide +kernel
theorem dX11_stores_61 : decode cX11_stores 61 = .ok (.aload_n 0, 1) := by decide +kernel
theorem dX11_stores_62 : decode cX11_stores 62 = .ok (.iconst 0, 1) := by decide +kernel
theorem dX11_stores_63 : decode cX11_stores 63 = .ok (.iload_n 3, 1) := by decide +kernel
theorem dX11_stores_64 : decode cX11_stores 64 = .ok (.invokevirtual 550, 3) := by decide +kernel
theorem dX11_stores_67 : decode cX11_stores 67 = .ok (.iadd, 1) := by decide +kernel
theorem dX11_stores_68 : decode cX11_stores 68 = .ok (.istore 4, 2) := by decide +kernel
theorem dX11_stores_70 : decode cX11_stores 70 = .ok (.iload 4, 2) := by decide +kernel
theorem dX11_stores_72 : decode cX11_stores 72 = .ok (.sipush 9999, 3) := by decide +kernel
theorem dX11_stores_75 : decode cX11_stores 75 = .ok (.if_icmp .le 9, 3) := by decide +kernel
theorem dX11_stores_78 : decode cX11_stores 78 = .ok (.sipush 9999, 3) := by decide +kernel
theorem dX11_stores_81 : decode cX11_stores 81 = .ok (.goto 5, 3) := by decide +kernel
theorem dX11_stores_84 : decode cX11_stores 84 = .ok (.iload 4, 2) := by decide +kernel
theorem dX11_stores_86 : decode cX11_stores 86 = .ok (.istore 4, 2) := by decide +kernel
theorem dX11_stores_88 : decode cX11_stores 88 = .ok (.iload 4, 2) := by decide +kernel
theorem dX11_stores_90 : decode cX11_stores 90 = .ok (.aload_n 0, 1) := by decide +kernel
theorem dX11_stores_91 : decode cX11_stores 91 = .ok (.getfield 108, 3) := by decide +kernel
theorem dX11_stores_94 : decode cX11_stores 94 = .ok (.aload_n 0, 1) := by decide +kernel
theorem dX11_stores_95 : decode cX11_stores 95 = .ok (.getfield 51, 3) := by decide +kernel
theorem dX11_stores_98 : decode cX11_stores 98 = .ok (.iaload, 1) := by decide +kernel
theorem dX11_stores_99 : decode cX11_stores 99 = .ok (.if_icmp .ge 13, 3) := by decide +kernel
theorem dX11_stores_102 : decode cX11_stores 102 = .ok (.iload_n 1, 1) := by decide +kernel
theorem dX11_stores_103 : decode cX11_stores 103 = .ok (.ifCond .ne 7, 3) := by decide +kernel
theorem dX11_stores_106 : decode cX11_stores 106 = .ok (.iload_n 2, 1) := by decide +kernel
theorem dX11_stores_107 : decode cX11_stores 107 = .ok (.goto 4, 3) := by decide +kernel
theorem dX11_stores_110 : decode cX11_stores 110 = .ok (.iload_n 3, 1) := by decide +kernel
theorem dX11_stores_111 : decode cX11_stores 111 = .ok (.ireturn, 1) := by decide +kernel
theorem dX11_stores_112 : decode cX11_stores 112 = .ok (.aload_n 0, 1) := by decide +kernel
theorem dX11_stores_113 : decode cX11_stores 113 = .ok (.getfield 173, 3) := by decide +kernel
theorem dX11_stores_116 : decode cX11_stores 116 = .ok (.iconst 5, 1) := by decide +kernel
theorem dX11_stores_117 : decode cX11_stores 117 = .ok (.iload_n 3, 1) := by decide +kernel
theorem dX11_stores_118 : decode cX11_stores 118 = .ok (.iadd, 1) := by decide +kernel
theorem dX11_stores_119 : decode cX11_stores 119 = .ok (.iload 4, 2) := by decide +kernel
theorem dX11_stores_121 : decode cX11_stores 121 = .ok (.aload_n 0, 1) := by decide +kernel
theorem dX11_stores_122 : decode cX11_stores 122 = .ok (.getfield 108, 3) := by decide +kernel
theorem dX11_stores_125 : decode cX11_stores 125 = .ok (.aload_n 0, 1) := by decide +kernel
theorem dX11_stores_126 : decode cX11_stores 126 = .ok (.getfield 51, 3) := by decide +kernel
theorem dX11_stores_129 : decode cX11_stores 129 = .ok (.iaload, 1) := by decide +kernel
theorem dX11_stores_130 : decode cX11_stores 130 = .ok (.isub, 1) := by decide +kernel
theorem dX11_stores_131 : decode cX11_stores 131 = .ok (.iastore, 1) := by decide +kernel
theorem dX11_stores_132 : decode cX11_stores 132 = .ok (.iinc 3 1, 3) := by decide +kernel
theorem dX11_stores_135 : decode cX11_stores 135 = .ok (.goto (-95), 3) := by decide +kernel
theorem dX11_stores_138 : decode cX11_stores 138 = .ok (.iinc 2 1, 3) := by decide +kernel
theorem dX11_stores_141 : decode cX11_stores 141 = .ok (.goto (-110), 3) := by decide +kernel
theorem dX11_stores_144 : decode cX11_stores 144 = .ok (.iconst (-1), 1) := by decide +kernel
theorem dX11_stores_145 : decode cX11_stores 145 = .ok (.ireturn, 1) := by decide +kernel
set_option maxRecDepth 100000 in
set_option maxHeartbeats 4000000 in
theorem X11_stores_J86_ok {g : Gm} {w : Wd} (C : Cx g w RX11 cX11_stores 5 (some .int)) {lv : Nat} (hlv : 8 < lv) {N : Nat} {r40 : Nat → Int → Int → Int → Mem → Option (Int × Mem) } {l0 : Nat} {l1 : Int} {l2 : Int} {l3 : Int} {s0 : Int} {m : Mem} {out : (Int × Mem)} (hr40 : ∀ l0 l1 l2 l3 m, r40 l0 l1 l2 l3 m = some out → Jd g w 5 (rmL lv 0 0) (Qm g w (some (vI out.1)) out.2) 40 [some (vR l0), some (vI l1), some (vI l2), some (vI l3), none] [] 312 m 0 0) (h : X11_stores_J86 N r40 l0 l1 l2 l3 s0 m = some out) : Jd g w 5 (rmL lv 0 0) (Qm g w (some (vI out.1)) out.2) 86 [some (vR l0), some (vI l1), some (vI l2), some (vI l3), none] [vI s0] 312 m 0 0 := by
  unfold X11_stores_J86 at h
  refine j_istore (ls' := [some (vR _), some (vI _), some (vI _), some (vI _), some (vI _)]) C dX11_stores_86 (by decide) rfl ?_
  refine j_iload C dX11_stores_88 rfl ?_
  refine j_aload_n C dX11_stores_90 rfl ?_
  refine j_getR C dX11_stores_91 CF11 (by decide) fl_X11_108 rfl rfl h (fun t11 h => ?_)
  refine j_aload_n C dX11_stores_94 rfl ?_
  refine j_getI C dX11_stores_95 CF11 (by decide) fl_X11_51 rfl rfl h (fun t12 h => ?_)
  refine j_iald C dX11_stores_98 rfl h (fun t13 h => ?_)
  refine j_icmp_ge C 112 dX11_stores_99 rfl h (fun c20 h => ?_) (fun c20 h => ?_)
  · refine j_aload_n C dX11_stores_112 rfl ?_
    refine j_getR C dX11_stores_113 CF11 (by decide) fl_X11_173 rfl rfl h (fun t14 h => ?_)
    refine j_iconst C dX11_stores_116 rfl ?_
    refine j_iload_n C dX11_stores_117 rfl ?_
    refine j_iadd C dX11_stores_118 ?_
    refine j_iload C dX11_stores_119 rfl ?_
    refine j_aload_n C dX11_stores_121 rfl ?_
    refine j_getR C dX11_stores_122 CF11 (by decide) fl_X11_108 rfl rfl h (fun t15 h => ?_)
    refine j_aload_n C dX11_stores_125 rfl ?_
    refine j_getI C dX11_stores_126 CF11 (by decide) fl_X11_51 rfl rfl h (fun t16 h => ?_)
    refine j_iald C dX11_stores_129 rfl h (fun t17 h => ?_)
    refine j_isub C dX11_stores_130 ?_
    refine j_iast C dX11_stores_131 rfl h (fun m18 h => ?_)
    refine j_iinc (ls' := [some (vR _), some (vI _), some (vI _), some (vI _), some (vI _)]) C dX11_stores_132 rfl (by decide) rfl ?_
    refine j_goto C 40 dX11_stores_135 rfl ?_
    refine j_mask [true, true, true, true, false] (ls' := [some (vR _), some (vI _), some (vI _), some (vI _), none]) rfl ?_
    exact hr40 _ _ _ _ _ h
  · refine j_iload_n C dX11_stores_102 rfl ?_
    refine j_if_ne C 110 dX11_stores_103 rfl h (fun c19 h => ?_) (fun c19 h => ?_)
    · refine j_iload_n C dX11_stores_110 rfl ?_
      have e := Option.some.inj h
      subst e
      exact j_ri C dX11_stores_111 rfl rfl rfl
    · refine j_iload_n C dX11_stores_106 rfl ?_
      refine j_goto C 111 dX11_stores_107 rfl ?_
      have e := Option.some.inj h
      subst e
      exact j_ri C dX11_stores_111 rfl rfl rfl
set_option maxRecDepth 100000 in
set_option maxHeartbeats 4000000 in
theorem X11_stores_L40_bok {g : Gm} {w : Wd} (C : Cx g w RX11 cX11_stores 5 (some .int)) {lv : Nat} (hlv : 8 < lv) {N : Nat} {k138 : Nat → Int → Int → Mem → Option (Int × Mem)} {r40 : Nat → Int → Int → Int → Mem → Option (Int × Mem)} {l0 : Nat} {l1 : Int} {l2 : Int} {l3 : Int} {m : Mem} {out : (Int × Mem)} (hk138 : ∀ l0 l1 l2 m, k138 l0 l1 l2 m = some out → Jd g w 5 (rmL lv 0 0) (Qm g w (some (vI out.1)) out.2) 138 [some (vR l0), some (vI l1), some (vI l2), none, none] [] 312 m 0 0) (hr40 : ∀ l0 l1 l2 l3 m, r40 l0 l1 l2 l3 m = some out → Jd g w 5 (rmL lv 0 0) (Qm g w (some (vI out.1)) out.2) 40 [some (vR l0), some (vI l1), some (vI l2), some (vI l3), none] [] 312 m 0 0) (h : X11_stores_L40_b N k138 r40 l0 l1 l2 l3 m = some out) : Jd g w 5 (rmL lv 0 0) (Qm g w (some (vI out.1)) out.2) 40 [some (vR l0), some (vI l1), some (vI l2), some (vI l3), none] [] 312 m 0 0 := by
  unfold X11_stores_L40_b at h
  refine j_iload_n C dX11_stores_40 rfl ?_
  refine j_aload_n C dX11_stores_41 rfl ?_
  refine j_getR C dX11_stores_42 CF11 (by decide) fl_X11_75 rfl rfl h (fun t5 h => ?_)
  refine j_aload_n C dX11_stores_45 rfl ?_
  refine j_getI C dX11_stores_46 CF11 (by decide) fl_X11_51 rfl rfl h (fun t6 h => ?_)
  refine j_iald C dX11_stores_49 rfl h (fun t7 h => ?_)
  refine j_icmp_ge C 138 dX11_stores_50 rfl h (fun c22 h => ?_) (fun c22 h => ?_)
  · refine j_mask [true, true, true, false, false] (ls' := [some (vR _), some (vI _), some (vI _), none, none]) rfl ?_
    exact hk138 _ _ _ _ h
  · refine j_aload_n C dX11_stores_53 rfl ?_
    refine j_getR C dX11_stores_54 CF11 (by decide) fl_X11_173 rfl rfl h (fun t8 h => ?_)
    refine j_iconst C dX11_stores_57 rfl ?_
    refine j_iload_n C dX11_stores_58 rfl ?_
    refine j_iadd C dX11_stores_59 ?_
    refine j_iald C dX11_stores_60 rfl h (fun t9 h => ?_)
    refine j_aload_n C dX11_stores_61 rfl ?_
    refine j_iconst C dX11_stores_62 rfl ?_
    refine j_iload_n C dX11_stores_63 rfl ?_
    obtain ⟨p10, ep10, h⟩ := bind_some h
    have qp10 := X11_comes_ct ep10
    refine j_cVI C dX11_stores_64 vl_X11_550 CF11 rfl qp10.1 qp10.2 (by omega) rfl rfl (Nat.le_of_ble_eq_true rfl) ?_
    refine j_iadd C dX11_stores_67 ?_
    refine j_istore (ls' := [some (vR _), some (vI _), some (vI _), some (vI _), some (vI _)]) C dX11_stores_68 (by decide) rfl ?_
    refine j_iload C dX11_stores_70 rfl ?_
    refine j_sipush C dX11_stores_72 rfl ?_
    refine j_icmp_le C 84 dX11_stores_75 rfl h (fun c21 h => ?_) (fun c21 h => ?_)
    · refine j_iload C dX11_stores_84 rfl ?_
      refine j_mask [true, true, true, true, false] (ls' := [some (vR _), some (vI _), some (vI _), some (vI _), none]) rfl ?_
      exact X11_stores_J86_ok C hlv hr40 h
    · refine j_sipush C dX11_stores_78 rfl ?_
      refine j_goto C 86 dX11_stores_81 rfl ?_
      refine j_mask [true, true, true, true, false] (ls' := [some (vR _), some (vI _), some (vI _), some (vI _), none]) rfl ?_
      exact X11_stores_J86_ok C hlv hr40 h
set_option maxRecDepth 100000 in
set_option maxHeartbeats 4000000 in
theorem X11_stores_L40_ok {g : Gm} {w : Wd} (C : Cx g w RX11 cX11_stores 5 (some .int)) {lv : Nat} (hlv : 8 < lv) {N : Nat} {k138 : Nat → Int → Int → Mem → Option (Int × Mem)} {out : (Int × Mem)} (hk138 : ∀ l0 l1 l2 m, k138 l0 l1 l2 m = some out → Jd g w 5 (rmL lv 0 0) (Qm g w (some (vI out.1)) out.2) 138 [some (vR l0), some (vI l1), some (vI l2), none, none] [] 312 m 0 0) (f : Nat) : ∀ {l0 : Nat} {l1 : Int} {l2 : Int} {l3 : Int} {m : Mem}, X11_stores_L40 N k138 f l0 l1 l2 l3 m = some out → Jd g w 5 (rmL lv 0 0) (Qm g w (some (vI out.1)) out.2) 40 [some (vR l0), some (vI l1), some (vI l2), some (vI l3), none] [] 312 m 0 0 := by
  induction f with
  | zero => intro l0 l1 l2 l3 m h; exact none_ne (α := (Int × Mem)) h
  | succ f ih => intro l0 l1 l2 l3 m h; exact X11_stores_L40_bok C hlv hk138 (fun l0 l1 l2 l3 m h => ih h) h
set_option maxRecDepth 100000 in
set_option maxHeartbeats 4000000 in
theorem X11_stores_L31_bok {g : Gm} {w : Wd} (C : Cx g w RX11 cX11_stores 5 (some .int)) {lv : Nat} (hlv : 8 < lv) {N : Nat} {r31 : Nat → Int → Int → Mem → Option (Int × Mem)} {l0 : Nat} {l1 : Int} {l2 : Int} {m : Mem} {out : (Int × Mem)} (hr31 : ∀ l0 l1 l2 m, r31 l0 l1 l2 m = some out → Jd g w 5 (rmL lv 0 0) (Qm g w (some (vI out.1)) out.2) 31 [some (vR l0), some (vI l1), some (vI l2), none, none] [] 312 m 0 0) (h : X11_stores_L31_b N r31 l0 l1 l2 m = some out) : Jd g w 5 (rmL lv 0 0) (Qm g w (some (vI out.1)) out.2) 31 [some (vR l0), some (vI l1), some (vI l2), none, none] [] 312 m 0 0 := by
  unfold X11_stores_L31_b at h
  refine j_iload_n C dX11_stores_31 rfl ?_
  refine j_sipush C dX11_stores_32 rfl ?_
  refine j_icmp_ge C 144 dX11_stores_35 rfl h (fun c27 h => ?_) (fun c27 h => ?_)
  · refine j_iconst C dX11_stores_144 rfl ?_
    have e := Option.some.inj h
    subst e
    exact j_ri C dX11_stores_145 rfl rfl rfl
  · refine j_iconst C dX11_stores_38 rfl ?_
    refine j_istore_n (ls' := [some (vR _), some (vI _), some (vI _), some (vI _), none]) C dX11_stores_39 (by decide) rfl ?_
    refine X11_stores_L40_ok C hlv (fun z23 z24 z25 m26 h => ?_) N h
    refine j_iinc (ls' := [some (vR _), some (vI _), some (vI _), none, none]) C dX11_stores_138 rfl (by decide) rfl ?_
    refine j_goto C 31 dX11_stores_141 rfl ?_
    exact hr31 _ _ _ _ h
set_option maxRecDepth 100000 in
set_option maxHeartbeats 4000000 in
theorem X11_stores_L31_ok {g : Gm} {w : Wd} (C : Cx g w RX11 cX11_stores 5 (some .int)) {lv : Nat} (hlv : 8 < lv) {N : Nat} {out : (Int × Mem)} (f : Nat) : ∀ {l0 : Nat} {l1 : Int} {l2 : Int} {m : Mem}, X11_stores_L31 N f l0 l1 l2 m = some out → Jd g w 5 (rmL lv 0 0) (Qm g w (some (vI out.1)) out.2) 31 [some (vR l0), some (vI l1), some (vI l2), none, none] [] 312 m 0 0 := by
  induction f with
  | zero => intro l0 l1 l2 m h; exact none_ne (α := (Int × Mem)) h
  | succ f ih => intro l0 l1 l2 m h; exact X11_stores_L31_bok C hlv (fun l0 l1 l2 m h => ih h) h
set_option maxRecDepth 100000 in
set_option maxHeartbeats 4000000 in
theorem X11_stores_ct {N : Nat} {l0 : Nat} {l1 : Int} {m : Mem} {out : (Int × Mem)} (h : X11_stores N l0 l1 m = some out) : shK l0 = 11 + 10 ∧ CT yX11_stores cX11_stores 5 (some .int) 9 0 0 [vR l0, vI l1] 312 m (some (vI out.1)) 312 out.2 := by
  unfold X11_stores at h
  obtain ⟨hK, h⟩ := ite_some h
  have hlv : 8 < 9 := by decide
  refine ⟨hK, CT.of (by decide +kernel) rfl (Nat.le_of_ble_eq_true rfl) (ls := [some (vR l0), some (vI l1), none, none, none]) rfl fun g w C _ => ?_⟩
  refine j_iload_n C dX11_stores_0 rfl ?_
  refine j_iconst C dX11_stores_1 rfl ?_
  refine j_iconst C dX11_stores_2 rfl ?_
  obtain ⟨p1, ep1, h⟩ := bind_some h
  have qp1 := X11_is_ct ep1
  refine j_cSI C dX11_stores_3 sl_X11_334 qp1 (by omega) rfl rfl (Nat.le_of_ble_eq_true rfl) ?_
  refine j_if_eq C 16 dX11_stores_6 rfl h (fun c29 h => ?_) (fun c29 h => ?_)
  · refine j_iconst C dX11_stores_16 rfl ?_
    have e := Option.some.inj h
    subst e
    exact j_ri C dX11_stores_17 rfl rfl rfl
  · refine j_aload_n C dX11_stores_9 rfl ?_
    obtain ⟨p2, ep2, h⟩ := bind_some h
    have qp2 := X11_isIsland_ct ep2
    refine j_cVI C dX11_stores_10 vl_X11_553 CF11 rfl qp2.1 qp2.2 (by omega) rfl rfl (Nat.le_of_ble_eq_true rfl) ?_
    refine j_if_ne C 18 dX11_stores_13 rfl h (fun c28 h => ?_) (fun c28 h => ?_)
    · refine j_aload_n C dX11_stores_18 rfl ?_
      refine j_iconst C dX11_stores_19 rfl ?_
      obtain ⟨p3, ep3, h⟩ := bind_some h
      have qp3 := X11_nightAsTold_ct ep3
      refine j_cVV C dX11_stores_20 vl_X11_544 CF11 rfl qp3.1 qp3.2 (by omega) rfl rfl (Nat.le_of_ble_eq_true rfl) ?_
      refine j_aload_n C dX11_stores_23 rfl ?_
      refine j_iconst C dX11_stores_24 rfl ?_
      refine j_iconst C dX11_stores_25 rfl ?_
      obtain ⟨p4, ep4, h⟩ := bind_some h
      have qp4 := X11_copies_ct ep4
      refine j_cVV C dX11_stores_26 vl_X11_448 CF11 rfl qp4.1 qp4.2 (by omega) rfl rfl (Nat.le_of_ble_eq_true rfl) ?_
      refine j_iconst C dX11_stores_29 rfl ?_
      refine j_istore_n (ls' := [some (vR _), some (vI _), some (vI _), none, none]) C dX11_stores_30 (by decide) rfl ?_
      exact X11_stores_L31_ok C hlv N h
    · refine j_iconst C dX11_stores_16 rfl ?_
      have e := Option.some.inj h
      subst e
      exact j_ri C dX11_stores_17 rfl rfl rfl
theorem dX11_thing_0 : decode cX11_thing 0 = .ok (.aload_n 0, 1) := by decide +kernel
theorem dX11_thing_1 : decode cX11_thing 1 = .ok (.iload_n 1, 1) := by decide +kernel
theorem dX11_thing_2 : decode cX11_thing 2 = .ok (.invokevirtual 541, 3) := by decide +kernel
theorem dX11_thing_5 : decode cX11_thing 5 = .ok (.ifCond .ne 5, 3) := by decide +kernel
theorem dX11_thing_8 : decode cX11_thing 8 = .ok (.iconst (-1), 1) := by decide +kernel
theorem dX11_thing_9 : decode cX11_thing 9 = .ok (.ireturn, 1) := by decide +kernel
theorem dX11_thing_10 : decode cX11_thing 10 = .ok (.iload_n 2, 1) := by decide +kernel
theorem dX11_thing_11 : decode cX11_thing 11 = .ok (.tableswitch 70 0 4 #[33, 40, 46, 52, 59], 33) := by decide +kernel
theorem dX11_thing_44 : decode cX11_thing 44 = .ok (.aload_n 0, 1) := by decide +kernel
theorem dX11_thing_45 : decode cX11_thing 45 = .ok (.getfield 170, 3) := by decide +kernel
theorem dX11_thing_48 : decode cX11_thing 48 = .ok (.iload_n 1, 1) := by decide +kernel
theorem dX11_thing_49 : decode cX11_thing 49 = .ok (.iaload, 1) := by decide +kernel
theorem dX11_thing_50 : decode cX11_thing 50 = .ok (.ireturn, 1) := by decide +kernel
theorem dX11_thing_51 : decode cX11_thing 51 = .ok (.aload_n 0, 1) := by decide +kernel
theorem dX11_thing_52 : decode cX11_thing 52 = .ok (.iload_n 1, 1) := by decide +kernel
theorem dX11_thing_53 : decode cX11_thing 53 = .ok (.invokevirtual 470, 3) := by decide +kernel
theorem dX11_thing_56 : decode cX11_thing 56 = .ok (.ireturn, 1) := by decide +kernel
theorem dX11_thing_57 : decode cX11_thing 57 = .ok (.aload_n 0, 1) := by decide +kernel
theorem dX11_thing_58 : decode cX11_thing 58 = .ok (.iload_n 1, 1) := by decide +kernel
theorem dX11_thing_59 : decode cX11_thing 59 = .ok (.invokevirtual 442, 3) := by decide +kernel
theorem dX11_thing_62 : decode cX11_thing 62 = .ok (.ireturn, 1) := by decide +kernel
theorem dX11_thing_63 : decode cX11_thing 63 = .ok (.aload_n 0, 1) := by decide +kernel
theorem dX11_thing_64 : decode cX11_thing 64 = .ok (.iconst 0, 1) := by decide +kernel
theorem dX11_thing_65 : decode cX11_thing 65 = .ok (.iload_n 1, 1) := by decide +kernel
theorem dX11_thing_66 : decode cX11_thing 66 = .ok (.invokevirtual 515, 3) := by decide +kernel
theorem dX11_thing_69 : decode cX11_thing 69 = .ok (.ireturn, 1) := by decide +kernel
theorem dX11_thing_70 : decode cX11_thing 70 = .ok (.aload_n 0, 1) := by decide +kernel
theorem dX11_thing_71 : decode cX11_thing 71 = .ok (.iconst 0, 1) := by decide +kernel
theorem dX11_thing_72 : decode cX11_thing 72 = .ok (.invokevirtual 544, 3) := by decide +kernel
theorem dX11_thing_75 : decode cX11_thing 75 = .ok (.aload_n 0, 1) := by decide +kernel
theorem dX11_thing_76 : decode cX11_thing 76 = .ok (.iload_n 1, 1) := by decide +kernel
theorem dX11_thing_77 : decode cX11_thing 77 = .ok (.invokevirtual 518, 3) := by decide +kernel
theorem dX11_thing_80 : decode cX11_thing 80 = .ok (.ireturn, 1) := by decide +kernel
theorem dX11_thing_81 : decode cX11_thing 81 = .ok (.iconst (-1), 1) := by decide +kernel
theorem dX11_thing_82 : decode cX11_thing 82 = .ok (.ireturn, 1) := by decide +kernel
set_option maxRecDepth 100000 in
set_option maxHeartbeats 4000000 in
theorem X11_thing_ct {N : Nat} {l0 : Nat} {l1 : Int} {l2 : Int} {m : Mem} {out : (Int × Mem)} (h : X11_thing N l0 l1 l2 m = some out) : shK l0 = 11 + 10 ∧ CT yX11_thing cX11_thing 3 (some .int) 9 0 0 [vR l0, vI l1, vI l2] 312 m (some (vI out.1)) 312 out.2 := by
  unfold X11_thing at h
  obtain ⟨hK, h⟩ := ite_some h
  have hlv : 8 < 9 := by decide
  refine ⟨hK, CT.of (by decide +kernel) rfl (Nat.le_of_ble_eq_true rfl) (ls := [some (vR l0), some (vI l1), some (vI l2)]) rfl fun g w C _ => ?_⟩
  refine j_aload_n C dX11_thing_0 rfl ?_
  refine j_iload_n C dX11_thing_1 rfl ?_
  obtain ⟨p1, ep1, h⟩ := bind_some h
  have qp1 := X11_isThing_ct ep1
  refine j_cVI C dX11_thing_2 vl_X11_541 CF11 rfl qp1.1 qp1.2 (by omega) rfl rfl (Nat.le_of_ble_eq_true rfl) ?_
  refine j_if_ne C 10 dX11_thing_5 rfl h (fun c14 h => ?_) (fun c14 h => ?_)
  · refine j_iload_n C dX11_thing_10 rfl ?_
    rcases ite_cases h with ⟨c4, h⟩ | ⟨c4, h⟩
    · refine j_tsIn C 44 (0) dX11_thing_11 c4 rfl rfl rfl ?_
      refine j_aload_n C dX11_thing_44 rfl ?_
      refine j_getR C dX11_thing_45 CF11 (by decide) fl_X11_170 rfl rfl h (fun t2 h => ?_)
      refine j_iload_n C dX11_thing_48 rfl ?_
      refine j_iald C dX11_thing_49 rfl h (fun t3 h => ?_)
      have e := Option.some.inj h
      subst e
      exact j_ri C dX11_thing_50 rfl rfl rfl
    rcases ite_cases h with ⟨c6, h⟩ | ⟨c6, h⟩
    · refine j_tsIn C 51 (1) dX11_thing_11 c6 rfl rfl rfl ?_
      refine j_aload_n C dX11_thing_51 rfl ?_
      refine j_iload_n C dX11_thing_52 rfl ?_
      obtain ⟨p5, ep5, h⟩ := bind_some h
      have qp5 := X11_takesOf_ct ep5
      refine j_cVI C dX11_thing_53 vl_X11_470 CF11 rfl qp5.1 qp5.2 (by omega) rfl rfl (Nat.le_of_ble_eq_true rfl) ?_
      have e := Option.some.inj h
      subst e
      exact j_ri C dX11_thing_56 rfl rfl rfl
    rcases ite_cases h with ⟨c8, h⟩ | ⟨c8, h⟩
    · refine j_tsIn C 57 (2) dX11_thing_11 c8 rfl rfl rfl ?_
      refine j_aload_n C dX11_thing_57 rfl ?_
      refine j_iload_n C dX11_thing_58 rfl ?_
      obtain ⟨p7, ep7, h⟩ := bind_some h
      have qp7 := X11_sortOf_ct ep7
      refine j_cVI C dX11_thing_59 vl_X11_442 CF11 rfl qp7.1 qp7.2 (by omega) rfl rfl (Nat.le_of_ble_eq_true rfl) ?_
      have e := Option.some.inj h
      subst e
      exact j_ri C dX11_thing_62 rfl rfl rfl
    rcases ite_cases h with ⟨c10, h⟩ | ⟨c10, h⟩
    · refine j_tsIn C 63 (3) dX11_thing_11 c10 rfl rfl rfl ?_
      refine j_aload_n C dX11_thing_63 rfl ?_
      refine j_iconst C dX11_thing_64 rfl ?_
      refine j_iload_n C dX11_thing_65 rfl ?_
      obtain ⟨p9, ep9, h⟩ := bind_some h
      have qp9 := X11_cisternOf_ct ep9
      refine j_cVI C dX11_thing_66 vl_X11_515 CF11 rfl qp9.1 qp9.2 (by omega) rfl rfl (Nat.le_of_ble_eq_true rfl) ?_
      have e := Option.some.inj h
      subst e
      exact j_ri C dX11_thing_69 rfl rfl rfl
    rcases ite_cases h with ⟨c13, h⟩ | ⟨c13, h⟩
    · refine j_tsIn C 70 (4) dX11_thing_11 c13 rfl rfl rfl ?_
      refine j_aload_n C dX11_thing_70 rfl ?_
      refine j_iconst C dX11_thing_71 rfl ?_
      obtain ⟨p11, ep11, h⟩ := bind_some h
      have qp11 := X11_nightAsTold_ct ep11
      refine j_cVV C dX11_thing_72 vl_X11_544 CF11 rfl qp11.1 qp11.2 (by omega) rfl rfl (Nat.le_of_ble_eq_true rfl) ?_
      refine j_aload_n C dX11_thing_75 rfl ?_
      refine j_iload_n C dX11_thing_76 rfl ?_
      obtain ⟨p12, ep12, h⟩ := bind_some h
      have qp12 := X11_dawnOf_ct ep12
      refine j_cVI C dX11_thing_77 vl_X11_518 CF11 rfl qp12.1 qp12.2 (by omega) rfl rfl (Nat.le_of_ble_eq_true rfl) ?_
      have e := Option.some.inj h
      subst e
      exact j_ri C dX11_thing_80 rfl rfl rfl
    refine j_tsOut C 81 dX11_thing_11 (by omega) rfl ?_
    refine j_iconst C dX11_thing_81 rfl ?_
    have e := Option.some.inj h
    subst e
    exact j_ri C dX11_thing_82 rfl rfl rfl
  · refine j_iconst C dX11_thing_8 rfl ?_
    have e := Option.some.inj h
    subst e
    exact j_ri C dX11_thing_9 rfl rfl rfl
theorem dX11_undo_0 : decode cX11_undo 0 = .ok (.aload_n 0, 1) := by decide +kernel
theorem dX11_undo_1 : decode cX11_undo 1 = .ok (.getfield 179, 3) := by decide +kernel
theorem dX11_undo_4 : decode cX11_undo 4 = .ok (.ifCond .ne 17, 3) := by decide +kernel
theorem dX11_undo_7 : decode cX11_undo 7 = .ok (.aload_n 0, 1) := by decide +kernel
theorem dX11_undo_8 : decode cX11_undo 8 = .ok (.iconst 4, 1) := by decide +kernel
theorem dX11_undo_9 : decode cX11_undo 9 = .ok (.invokevirtual 248, 3) := by decide +kernel
theorem dX11_undo_12 : decode cX11_undo 12 = .ok (.ifCond .lt 7, 3) := by decide +kernel
theorem dX11_undo_15 : decode cX11_undo 15 = .ok (.iconst 1, 1) := by decide +kernel
theorem dX11_undo_16 : decode cX11_undo 16 = .ok (.goto 4, 3) := by decide +kernel
theorem dX11_undo_19 : decode cX11_undo 19 = .ok (.iconst 0, 1) := by decide +kernel
theorem dX11_undo_20 : decode cX11_undo 20 = .ok (.ireturn, 1) := by decide +kernel
theorem dX11_undo_21 : decode cX11_undo 21 = .ok (.aload_n 0, 1) := by decide +kernel
theorem dX11_undo_22 : decode cX11_undo 22 = .ok (.dup, 1) := by decide +kernel
theorem dX11_undo_23 : decode cX11_undo 23 = .ok (.getfield 179, 3) := by decide +kernel
theorem dX11_undo_26 : decode cX11_undo 26 = .ok (.iconst 1, 1) := by decide +kernel
theorem dX11_undo_27 : decode cX11_undo 27 = .ok (.isub, 1) := by decide +kernel
theorem dX11_undo_28 : decode cX11_undo 28 = .ok (.putfield 179, 3) := by decide +kernel
theorem dX11_undo_31 : decode cX11_undo 31 = .ok (.aload_n 0, 1) := by decide +kernel
theorem dX11_undo_32 : decode cX11_undo 32 = .ok (.iconst 0, 1) := by decide +kernel
theorem dX11_undo_33 : decode cX11_undo 33 = .ok (.aload_n 0, 1) := by decide +kernel
theorem dX11_undo_34 : decode cX11_undo 34 = .ok (.aload_n 0, 1) := by decide +kernel
theorem dX11_undo_35 : decode cX11_undo 35 = .ok (.getfield 179, 3) := by decide +kernel
theorem dX11_undo_38 : decode cX11_undo 38 = .ok (.invokevirtual 445, 3) := by decide +kernel
theorem dX11_undo_41 : decode cX11_undo 41 = .ok (.invokevirtual 448, 3) := by decide +kernel
theorem dX11_undo_44 : decode cX11_undo 44 = .ok (.iconst 1, 1) := by decide +kernel
theorem dX11_undo_45 : decode cX11_undo 45 = .ok (.ireturn, 1) := by decide +kernel
set_option maxRecDepth 100000 in
set_option maxHeartbeats 4000000 in
theorem X11_undo_ct {N : Nat} {l0 : Nat} {m : Mem} {out : (Int × Mem)} (h : X11_undo N l0 m = some out) : shK l0 = 11 + 10 ∧ CT yX11_undo cX11_undo 1 (some .boolean) 2 0 0 [vR l0] 312 m (some (vI out.1)) 312 out.2 := by
  unfold X11_undo at h
  obtain ⟨hK, h⟩ := ite_some h
  have hlv : 1 < 2 := by decide
  refine ⟨hK, CT.of (by decide +kernel) rfl (Nat.le_of_ble_eq_true rfl) (ls := [some (vR l0)]) rfl fun g w C _ => ?_⟩
  refine j_aload_n C dX11_undo_0 rfl ?_
  refine j_getI C dX11_undo_1 CF11 (by decide) fl_X11_179 rfl rfl h (fun t1 h => ?_)
  refine j_if_ne C 21 dX11_undo_4 rfl h (fun c12 h => ?_) (fun c12 h => ?_)
  · refine j_aload_n C dX11_undo_21 rfl ?_
    refine j_dup C dX11_undo_22 rfl ?_
    refine j_getI C dX11_undo_23 CF11 (by decide) fl_X11_179 rfl rfl h (fun t2 h => ?_)
    refine j_iconst C dX11_undo_26 rfl ?_
    refine j_isub C dX11_undo_27 ?_
    refine j_putI C dX11_undo_28 CF11 (by decide) fl_X11_179 rfl rfl rfl rfl h (fun m3 h => ?_)
    refine j_aload_n C dX11_undo_31 rfl ?_
    refine j_iconst C dX11_undo_32 rfl ?_
    refine j_aload_n C dX11_undo_33 rfl ?_
    refine j_aload_n C dX11_undo_34 rfl ?_
    refine j_getI C dX11_undo_35 CF11 (by decide) fl_X11_179 rfl rfl h (fun t4 h => ?_)
    obtain ⟨p5, ep5, h⟩ := bind_some h
    have qp5 := X11_ring_ct ep5
    refine j_cVI C dX11_undo_38 vl_X11_445 CF11 rfl qp5.1 qp5.2 (by omega) rfl rfl (Nat.le_of_ble_eq_true rfl) ?_
    obtain ⟨p6, ep6, h⟩ := bind_some h
    have qp6 := X11_copies_ct ep6
    refine j_cVV C dX11_undo_41 vl_X11_448 CF11 rfl qp6.1 qp6.2 (by omega) rfl rfl (Nat.le_of_ble_eq_true rfl) ?_
    refine j_iconst C dX11_undo_44 rfl ?_
    obtain ⟨r7, er7, h⟩ := bind_some h
    have e := Option.some.inj h
    subst e
    exact j_rz C dX11_undo_45 rfl (retZ_some er7) rfl
  · refine j_aload_n C dX11_undo_7 rfl ?_
    refine j_iconst C dX11_undo_8 rfl ?_
    obtain ⟨p8, ep8, h⟩ := bind_some h
    have qp8 := X11_refuses_ct ep8
    refine j_cVI C dX11_undo_9 vl_X11_248 CF11 rfl qp8.1 qp8.2 (by omega) rfl rfl (Nat.le_of_ble_eq_true rfl) ?_
    refine j_if_lt C 19 dX11_undo_12 rfl h (fun c11 h => ?_) (fun c11 h => ?_)
    · refine j_iconst C dX11_undo_19 rfl ?_
      obtain ⟨r9, er9, h⟩ := bind_some h
      have e := Option.some.inj h
      subst e
      exact j_rz C dX11_undo_20 rfl (retZ_some er9) rfl
    · refine j_iconst C dX11_undo_15 rfl ?_
      refine j_goto C 20 dX11_undo_16 rfl ?_
      obtain ⟨r10, er10, h⟩ := bind_some h
      have e := Option.some.inj h
      subst e
      exact j_rz C dX11_undo_20 rfl (retZ_some er10) rfl
theorem dX11_votes_0 : decode cX11_votes 0 = .ok (.aload_n 0, 1) := by decide +kernel
theorem dX11_votes_1 : decode cX11_votes 1 = .ok (.iload_n 1, 1) := by decide +kernel
theorem dX11_votes_2 : decode cX11_votes 2 = .ok (.invokevirtual 532, 3) := by decide +kernel
theorem dX11_votes_5 : decode cX11_votes 5 = .ok (.ifCond .eq 21, 3) := by decide +kernel
theorem dX11_votes_8 : decode cX11_votes 8 = .ok (.aload_n 0, 1) := by decide +kernel
theorem dX11_votes_9 : decode cX11_votes 9 = .ok (.iconst 0, 1) := by decide +kernel
theorem dX11_votes_10 : decode cX11_votes 10 = .ok (.iload_n 1, 1) := by decide +kernel
theorem dX11_votes_11 : decode cX11_votes 11 = .ok (.invokevirtual 451, 3) := by decide +kernel
theorem dX11_votes_14 : decode cX11_votes 14 = .ok (.ifCond .eq 12, 3) := by decide +kernel
theorem dX11_votes_17 : decode cX11_votes 17 = .ok (.iload_n 2, 1) := by decide +kernel
theorem dX11_votes_18 : decode cX11_votes 18 = .ok (.iconst 0, 1) := by decide +kernel
theorem dX11_votes_19 : decode cX11_votes 19 = .ok (.iconst 1, 1) := by decide +kernel
theorem dX11_votes_20 : decode cX11_votes 20 = .ok (.invokestatic 334, 3) := by decide +kernel
theorem dX11_votes_23 : decode cX11_votes 23 = .ok (.ifCond .ne 5, 3) := by decide +kernel
theorem dX11_votes_26 : decode cX11_votes 26 = .ok (.iconst (-1), 1) := by decide +kernel
theorem dX11_votes_27 : decode cX11_votes 27 = .ok (.ireturn, 1) := by decide +kernel
theorem dX11_votes_28 : decode cX11_votes 28 = .ok (.iconst 0, 1) := by decide +kernel
theorem dX11_votes_29 : decode cX11_votes 29 = .ok (.istore_n 3, 1) := by decide +kernel
theorem dX11_votes_30 : decode cX11_votes 30 = .ok (.iconst 0, 1) := by decide +kernel
theorem dX11_votes_31 : decode cX11_votes 31 = .ok (.istore 4, 2) := by decide +kernel
theorem dX11_votes_33 : decode cX11_votes 33 = .ok (.iload 4, 2) := by decide +kernel
theorem dX11_votes_35 : decode cX11_votes 35 = .ok (.aload_n 0, 1) := by decide +kernel
theorem dX11_votes_36 : decode cX11_votes 36 = .ok (.getfield 75, 3) := by decide +kernel
theorem dX11_votes_39 : decode cX11_votes 39 = .ok (.aload_n 0, 1) := by decide +kernel
theorem dX11_votes_40 : decode cX11_votes 40 = .ok (.getfield 51, 3) := by decide +kernel
theorem dX11_votes_43 : decode cX11_votes 43 = .ok (.iaload, 1) := by decide +kernel
theorem dX11_votes_44 : decode cX11_votes 44 = .ok (.if_icmp .ge 48, 3) := by decide +kernel
theorem dX11_votes_47 : decode cX11_votes 47 = .ok (.aload_n 0, 1) := by decide +kernel
theorem dX11_votes_48 : decode cX11_votes 48 = .ok (.iload_n 1, 1) := by decide +kernel
theorem dX11_votes_49 : decode cX11_votes 49 = .ok (.iload 4, 2) := by decide +kernel
theorem dX11_votes_51 : decode cX11_votes 51 = .ok (.invokevirtual 595, 3) := by decide +kernel
theorem dX11_votes_54 : decode cX11_votes 54 = .ok (.istore 5, 2) := by decide +kernel
theorem dX11_votes_56 : decode cX11_votes 56 = .ok (.iload_n 3, 1) := by decide +kernel
theorem dX11_votes_57 : decode cX11_votes 57 = .ok (.iload_n 2, 1) := by decide +kernel
theorem dX11_votes_58 : decode cX11_votes 58 = .ok (.ifCond .ne 16, 3) := by decide +kernel
theorem dX11_votes_61 : decode cX11_votes 61 = .ok (.iload 5, 2) := by decide +kernel
theorem dX11_votes_63 : decode cX11_votes 63 = .ok (.ifCond .le 7, 3) := by decide +kernel
theorem dX11_votes_66 : decode cX11_votes 66 = .ok (.iconst 1, 1) := by decide +kernel
theorem dX11_votes_67 : decode cX11_votes 67 = .ok (.goto 17, 3) := by decide +kernel
theorem dX11_votes_70 : decode cX11_votes 70 = .ok (.iconst 0, 1) := by decide +kernel
theorem dX11_votes_71 : decode cX11_votes 71 = .ok (.goto 13, 3) := by decide +kernel
theorem dX11_votes_74 : decode cX11_votes 74 = .ok (.iload 5, 2) := by decide +kernel
theorem dX11_votes_76 : decode cX11_votes 76 = .ok (.ifCond .ge 7, 3) := by decide +kernel
theorem dX11_votes_79 : decode cX11_votes 79 = .ok (.iconst 1, 1) := by decide +kernel
theorem dX11_votes_80 : decode cX11_votes 80 = .ok (.goto 4, 3) := by decide +kernel
theorem dX11_votes_83 : decode cX11_votes 83 = .ok (.iconst 0, 1) := by decide +kernel
theorem dX11_votes_84 : decode cX11_votes 84 = .ok (.iadd, 1) := by decide +kernel
theorem dX11_votes_85 : decode cX11_votes 85 = .ok (.istore_n 3, 1) := by decide +kernel
theorem dX11_votes_86 : decode cX11_votes 86 = .ok (.iinc 4 1, 3) := by decide +kernel
theorem dX11_votes_89 : decode cX11_votes 89 = .ok (.goto (-56), 3) := by decide +kernel
theorem dX11_votes_92 : decode cX11_votes 92 = .ok (.iload_n 3, 1) := by decide +kernel
theorem dX11_votes_93 : decode cX11_votes 93 = .ok (.ireturn, 1) := by decide +kernel
set_option maxRecDepth 100000 in
set_option maxHeartbeats 4000000 in
theorem X11_votes_J84_ok {g : Gm} {w : Wd} (C : Cx g w RX11 cX11_votes 6 (some .int)) {lv : Nat} (hlv : 9 < lv) {N : Nat} {r33 : Nat → Int → Int → Int → Int → Mem → Option (Int × Mem) } {l0 : Nat} {l1 : Int} {l2 : Int} {l4 : Int} {s0 : Int} {s1 : Int} {m : Mem} {out : (Int × Mem)} (hr33 : ∀ l0 l1 l2 l3 l4 m, r33 l0 l1 l2 l3 l4 m = some out → Jd g w 6 (rmL lv 0 0) (Qm g w (some (vI out.1)) out.2) 33 [some (vR l0), some (vI l1), some (vI l2), some (vI l3), some (vI l4), none] [] 312 m 0 0) (h : X11_votes_J84 N r33 l0 l1 l2 l4 s0 s1 m = some out) : Jd g w 6 (rmL lv 0 0) (Qm g w (some (vI out.1)) out.2) 84 [some (vR l0), some (vI l1), some (vI l2), none, some (vI l4), none] [vI s1, vI s0] 312 m 0 0 := by
  unfold X11_votes_J84 at h
  refine j_iadd C dX11_votes_84 ?_
  refine j_istore_n (ls' := [some (vR _), some (vI _), some (vI _), some (vI _), some (vI _), none]) C dX11_votes_85 (by decide) rfl ?_
  refine j_iinc (ls' := [some (vR _), some (vI _), some (vI _), some (vI _), some (vI _), none]) C dX11_votes_86 rfl (by decide) rfl ?_
  refine j_goto C 33 dX11_votes_89 rfl ?_
  exact hr33 _ _ _ _ _ _ h
set_option maxRecDepth 100000 in
set_option maxHeartbeats 4000000 in
theorem X11_votes_L33_bok {g : Gm} {w : Wd} (C : Cx g w RX11 cX11_votes 6 (some .int)) {lv : Nat} (hlv : 9 < lv) {N : Nat} {r33 : Nat → Int → Int → Int → Int → Mem → Option (Int × Mem)} {l0 : Nat} {l1 : Int} {l2 : Int} {l3 : Int} {l4 : Int} {m : Mem} {out : (Int × Mem)} (hr33 : ∀ l0 l1 l2 l3 l4 m, r33 l0 l1 l2 l3 l4 m = some out → Jd g w 6 (rmL lv 0 0) (Qm g w (some (vI out.1)) out.2) 33 [some (vR l0), some (vI l1), some (vI l2), some (vI l3), some (vI l4), none] [] 312 m 0 0) (h : X11_votes_L33_b N r33 l0 l1 l2 l3 l4 m = some out) : Jd g w 6 (rmL lv 0 0) (Qm g w (some (vI out.1)) out.2) 33 [some (vR l0), some (vI l1), some (vI l2), some (vI l3), some (vI l4), none] [] 312 m 0 0 := by
  unfold X11_votes_L33_b at h
  refine j_iload C dX11_votes_33 rfl ?_
  refine j_aload_n C dX11_votes_35 rfl ?_
  refine j_getR C dX11_votes_36 CF11 (by decide) fl_X11_75 rfl rfl h (fun t4 h => ?_)
  refine j_aload_n C dX11_votes_39 rfl ?_
  refine j_getI C dX11_votes_40 CF11 (by decide) fl_X11_51 rfl rfl h (fun t5 h => ?_)
  refine j_iald C dX11_votes_43 rfl h (fun t6 h => ?_)
  refine j_icmp_ge C 92 dX11_votes_44 rfl h (fun c11 h => ?_) (fun c11 h => ?_)
  · refine j_iload_n C dX11_votes_92 rfl ?_
    have e := Option.some.inj h
    subst e
    exact j_ri C dX11_votes_93 rfl rfl rfl
  · refine j_aload_n C dX11_votes_47 rfl ?_
    refine j_iload_n C dX11_votes_48 rfl ?_
    refine j_iload C dX11_votes_49 rfl ?_
    obtain ⟨p7, ep7, h⟩ := bind_some h
    have qp7 := X11_without_ct ep7
    refine j_cVI C dX11_votes_51 vl_X11_595 CF11 rfl qp7.1 qp7.2 (by omega) rfl rfl (Nat.le_of_ble_eq_true rfl) ?_
    refine j_istore (ls' := [some (vR _), some (vI _), some (vI _), some (vI _), some (vI _), some (vI _)]) C dX11_votes_54 (by decide) rfl ?_
    refine j_iload_n C dX11_votes_56 rfl ?_
    refine j_iload_n C dX11_votes_57 rfl ?_
    refine j_if_ne C 74 dX11_votes_58 rfl h (fun c10 h => ?_) (fun c10 h => ?_)
    · refine j_iload C dX11_votes_74 rfl ?_
      refine j_if_ge C 83 dX11_votes_76 rfl h (fun c8 h => ?_) (fun c8 h => ?_)
      · refine j_iconst C dX11_votes_83 rfl ?_
        refine j_mask [true, true, true, false, true, false] (ls' := [some (vR _), some (vI _), some (vI _), none, some (vI _), none]) rfl ?_
        exact X11_votes_J84_ok C hlv hr33 h
      · refine j_iconst C dX11_votes_79 rfl ?_
        refine j_goto C 84 dX11_votes_80 rfl ?_
        refine j_mask [true, true, true, false, true, false] (ls' := [some (vR _), some (vI _), some (vI _), none, some (vI _), none]) rfl ?_
        exact X11_votes_J84_ok C hlv hr33 h
    · refine j_iload C dX11_votes_61 rfl ?_
      refine j_if_le C 70 dX11_votes_63 rfl h (fun c9 h => ?_) (fun c9 h => ?_)
      · refine j_iconst C dX11_votes_70 rfl ?_
        refine j_goto C 84 dX11_votes_71 rfl ?_
        refine j_mask [true, true, true, false, true, false] (ls' := [some (vR _), some (vI _), some (vI _), none, some (vI _), none]) rfl ?_
        exact X11_votes_J84_ok C hlv hr33 h
      · refine j_iconst C dX11_votes_66 rfl ?_
        refine j_goto C 84 dX11_votes_67 rfl ?_
        refine j_mask [true, true, true, false, true, false] (ls' := [some (vR _), some (vI _), some (vI _), none, some (vI _), none]) rfl ?_
        exact X11_votes_J84_ok C hlv hr33 h
set_option maxRecDepth 100000 in
set_option maxHeartbeats 4000000 in
theorem X11_votes_L33_ok {g : Gm} {w : Wd} (C : Cx g w RX11 cX11_votes 6 (some .int)) {lv : Nat} (hlv : 9 < lv) {N : Nat} {out : (Int × Mem)} (f : Nat) : ∀ {l0 : Nat} {l1 : Int} {l2 : Int} {l3 : Int} {l4 : Int} {m : Mem}, X11_votes_L33 N f l0 l1 l2 l3 l4 m = some out → Jd g w 6 (rmL lv 0 0) (Qm g w (some (vI out.1)) out.2) 33 [some (vR l0), some (vI l1), some (vI l2), some (vI l3), some (vI l4), none] [] 312 m 0 0 := by
  induction f with
  | zero => intro l0 l1 l2 l3 l4 m h; exact none_ne (α := (Int × Mem)) h
  | succ f ih => intro l0 l1 l2 l3 l4 m h; exact X11_votes_L33_bok C hlv (fun l0 l1 l2 l3 l4 m h => ih h) h
set_option maxRecDepth 100000 in
set_option maxHeartbeats 4000000 in
theorem X11_votes_ct {N : Nat} {l0 : Nat} {l1 : Int} {l2 : Int} {m : Mem} {out : (Int × Mem)} (h : X11_votes N l0 l1 l2 m = some out) : shK l0 = 11 + 10 ∧ CT yX11_votes cX11_votes 6 (some .int) 10 0 0 [vR l0, vI l1, vI l2] 312 m (some (vI out.1)) 312 out.2 := by
  unfold X11_votes at h
  obtain ⟨hK, h⟩ := ite_some h
  have hlv : 9 < 10 := by decide
  refine ⟨hK, CT.of (by decide +kernel) rfl (Nat.le_of_ble_eq_true rfl) (ls := [some (vR l0), some (vI l1), some (vI l2), none, none, none]) rfl fun g w C _ => ?_⟩
  refine j_aload_n C dX11_votes_0 rfl ?_
  refine j_iload_n C dX11_votes_1 rfl ?_
  obtain ⟨p1, ep1, h⟩ := bind_some h
  have qp1 := X11_isCell_ct ep1
  refine j_cVI C dX11_votes_2 vl_X11_532 CF11 rfl qp1.1 qp1.2 (by omega) rfl rfl (Nat.le_of_ble_eq_true rfl) ?_
  refine j_if_eq C 26 dX11_votes_5 rfl h (fun c14 h => ?_) (fun c14 h => ?_)
  · refine j_iconst C dX11_votes_26 rfl ?_
    have e := Option.some.inj h
    subst e
    exact j_ri C dX11_votes_27 rfl rfl rfl
  · refine j_aload_n C dX11_votes_8 rfl ?_
    refine j_iconst C dX11_votes_9 rfl ?_
    refine j_iload_n C dX11_votes_10 rfl ?_
    obtain ⟨p2, ep2, h⟩ := bind_some h
    have qp2 := X11_isWall_ct ep2
    refine j_cVI C dX11_votes_11 vl_X11_451 CF11 rfl qp2.1 qp2.2 (by omega) rfl rfl (Nat.le_of_ble_eq_true rfl) ?_
    refine j_if_eq C 26 dX11_votes_14 rfl h (fun c13 h => ?_) (fun c13 h => ?_)
    · refine j_iconst C dX11_votes_26 rfl ?_
      have e := Option.some.inj h
      subst e
      exact j_ri C dX11_votes_27 rfl rfl rfl
    · refine j_iload_n C dX11_votes_17 rfl ?_
      refine j_iconst C dX11_votes_18 rfl ?_
      refine j_iconst C dX11_votes_19 rfl ?_
      obtain ⟨p3, ep3, h⟩ := bind_some h
      have qp3 := X11_is_ct ep3
      refine j_cSI C dX11_votes_20 sl_X11_334 qp3 (by omega) rfl rfl (Nat.le_of_ble_eq_true rfl) ?_
      refine j_if_ne C 28 dX11_votes_23 rfl h (fun c12 h => ?_) (fun c12 h => ?_)
      · refine j_iconst C dX11_votes_28 rfl ?_
        refine j_istore_n (ls' := [some (vR _), some (vI _), some (vI _), some (vI _), none, none]) C dX11_votes_29 (by decide) rfl ?_
        refine j_iconst C dX11_votes_30 rfl ?_
        refine j_istore (ls' := [some (vR _), some (vI _), some (vI _), some (vI _), some (vI _), none]) C dX11_votes_31 (by decide) rfl ?_
        exact X11_votes_L33_ok C hlv N h
      · refine j_iconst C dX11_votes_26 rfl ?_
        have e := Option.some.inj h
        subst e
        exact j_ri C dX11_votes_27 rfl rfl rfl
theorem dX11_walk_0 : decode cX11_walk 0 = .ok (.iload_n 1, 1) := by decide +kernel
theorem dX11_walk_1 : decode cX11_walk 1 = .ok (.iconst 0, 1) := by decide +kernel
theorem dX11_walk_2 : decode cX11_walk 2 = .ok (.aload_n 0, 1) := by decide +kernel
theorem dX11_walk_3 : decode cX11_walk 3 = .ok (.getfield 230, 3) := by decide +kernel
theorem dX11_walk_6 : decode cX11_walk 6 = .ok (.iconst 1, 1) := by decide +kernel
theorem dX11_walk_7 : decode cX11_walk 7 = .ok (.isub, 1) := by decide +kernel
theorem dX11_walk_8 : decode cX11_walk 8 = .ok (.invokestatic 334, 3) := by decide +kernel
theorem dX11_walk_11 : decode cX11_walk 11 = .ok (.ifCond .eq 12, 3) := by decide +kernel
theorem dX11_walk_14 : decode cX11_walk 14 = .ok (.aload_n 0, 1) := by decide +kernel
theorem dX11_walk_15 : decode cX11_walk 15 = .ok (.getfield 233, 3) := by decide +kernel
theorem dX11_walk_18 : decode cX11_walk 18 = .ok (.iload_n 1, 1) := by decide +kernel
theorem dX11_walk_19 : decode cX11_walk 19 = .ok (.iaload, 1) := by decide +kernel
theorem dX11_walk_20 : decode cX11_walk 20 = .ok (.goto 4, 3) := by decide +kernel
theorem dX11_walk_23 : decode cX11_walk 23 = .ok (.iconst (-1), 1) := by decide +kernel
theorem dX11_walk_24 : decode cX11_walk 24 = .ok (.ireturn, 1) := by decide +kernel
set_option maxRecDepth 100000 in
set_option maxHeartbeats 4000000 in
theorem X11_walk_ct {l0 : Nat} {l1 : Int} {m : Mem} {out : Int} (h : X11_walk l0 l1 m = some out) : shK l0 = 11 + 10 ∧ CT yX11_walk cX11_walk 2 (some .int) 2 0 0 [vR l0, vI l1] 312 m (some (vI out)) 312 m := by
  unfold X11_walk at h
  obtain ⟨hK, h⟩ := ite_some h
  have hlv : 1 < 2 := by decide
  refine ⟨hK, CT.of (by decide +kernel) rfl (Nat.le_of_ble_eq_true rfl) (ls := [some (vR l0), some (vI l1)]) rfl fun g w C _ => ?_⟩
  refine j_iload_n C dX11_walk_0 rfl ?_
  refine j_iconst C dX11_walk_1 rfl ?_
  refine j_aload_n C dX11_walk_2 rfl ?_
  refine j_getI C dX11_walk_3 CF11 (by decide) fl_X11_230 rfl rfl h (fun t1 h => ?_)
  refine j_iconst C dX11_walk_6 rfl ?_
  refine j_isub C dX11_walk_7 ?_
  obtain ⟨p2, ep2, h⟩ := bind_some h
  have qp2 := X11_is_ct ep2
  refine j_cSI C dX11_walk_8 sl_X11_334 qp2 (by omega) rfl rfl (Nat.le_of_ble_eq_true rfl) ?_
  refine j_if_eq C 23 dX11_walk_11 rfl h (fun c5 h => ?_) (fun c5 h => ?_)
  · refine j_iconst C dX11_walk_23 rfl ?_
    exact j_ri C dX11_walk_24 rfl (Option.some.inj h).symm rfl
  · refine j_aload_n C dX11_walk_14 rfl ?_
    refine j_getR C dX11_walk_15 CF11 (by decide) fl_X11_233 rfl rfl h (fun t3 h => ?_)
    refine j_iload_n C dX11_walk_18 rfl ?_
    refine j_iald C dX11_walk_19 rfl h (fun t4 h => ?_)
    refine j_goto C 24 dX11_walk_20 rfl ?_
    exact j_ri C dX11_walk_24 rfl (Option.some.inj h).symm rfl
theorem dX11_walked_0 : decode cX11_walked 0 = .ok (.aload_n 0, 1) := by decide +kernel
theorem dX11_walked_1 : decode cX11_walked 1 = .ok (.getfield 13, 3) := by decide +kernel
theorem dX11_walked_4 : decode cX11_walked 4 = .ok (.istore_n 1, 1) := by decide +kernel
theorem dX11_walked_5 : decode cX11_walked 5 = .ok (.aload_n 0, 1) := by decide +kernel
theorem dX11_walked_6 : decode cX11_walked 6 = .ok (.iconst 0, 1) := by decide +kernel
theorem dX11_walked_7 : decode cX11_walked 7 = .ok (.putfield 13, 3) := by decide +kernel
theorem dX11_walked_10 : decode cX11_walked 10 = .ok (.iload_n 1, 1) := by decide +kernel
theorem dX11_walked_11 : decode cX11_walked 11 = .ok (.iconst 2, 1) := by decide +kernel
theorem dX11_walked_12 : decode cX11_walked 12 = .ok (.bipush 10, 2) := by decide +kernel
theorem dX11_walked_14 : decode cX11_walked 14 = .ok (.invokestatic 334, 3) := by decide +kernel
theorem dX11_walked_17 : decode cX11_walked 17 = .ok (.istore_n 2, 1) := by decide +kernel
theorem dX11_walked_18 : decode cX11_walked 18 = .ok (.iconst 0, 1) := by decide +kernel
theorem dX11_walked_19 : decode cX11_walked 19 = .ok (.istore_n 3, 1) := by decide +kernel
theorem dX11_walked_20 : decode cX11_walked 20 = .ok (.iload_n 3, 1) := by decide +kernel
theorem dX11_walked_21 : decode cX11_walked 21 = .ok (.iload_n 1, 1) := by decide +kernel
theorem dX11_walked_22 : decode cX11_walked 22 = .ok (.if_icmp .ge 65, 3) := by decide +kernel
theorem dX11_walked_25 : decode cX11_walked 25 = .ok (.iload_n 2, 1) := by decide +kernel
theorem dX11_walked_26 : decode cX11_walked 26 = .ok (.ifCond .eq 61, 3) := by decide +kernel
theorem dX11_walked_29 : decode cX11_walked 29 = .ok (.aload_n 0, 1) := by decide +kernel
theorem dX11_walked_30 : decode cX11_walked 30 = .ok (.aload_n 0, 1) := by decide +kernel
theorem dX11_walked_31 : decode cX11_walked 31 = .ok (.getfield 7, 3) := by decide +kernel
theorem dX11_walked_34 : decode cX11_walked 34 = .ok (.iload_n 3, 1) := by decide +kernel
theorem dX11_walked_35 : decode cX11_walked 35 = .ok (.iaload, 1) := by decide +kernel
theorem dX11_walked_36 : decode cX11_walked 36 = .ok (.invokevirtual 532, 3) := by decide +kernel
theorem dX11_walked_39 : decode cX11_walked 39 = .ok (.istore_n 2, 1) := by decide +kernel
theorem dX11_walked_40 : decode cX11_walked 40 = .ok (.iconst 0, 1) := by decide +kernel
theorem dX11_walked_41 : decode cX11_walked 41 = .ok (.istore 4, 2) := by decide +kernel
theorem dX11_walked_43 : decode cX11_walked 43 = .ok (.iload 4, 2) := by decide +kernel
theorem dX11_walked_45 : decode cX11_walked 45 = .ok (.iload_n 3, 1) := by decide +kernel
theorem dX11_walked_46 : decode cX11_walked 46 = .ok (.if_icmp .ge 35, 3) := by decide +kernel
theorem dX11_walked_49 : decode cX11_walked 49 = .ok (.iload_n 2, 1) := by decide +kernel
theorem dX11_walked_50 : decode cX11_walked 50 = .ok (.ifCond .eq 23, 3) := by decide +kernel
theorem dX11_walked_53 : decode cX11_walked 53 = .ok (.aload_n 0, 1) := by decide +kernel
theorem dX11_walked_54 : decode cX11_walked 54 = .ok (.getfield 7, 3) := by decide +kernel
theorem dX11_walked_57 : decode cX11_walked 57 = .ok (.iload 4, 2) := by decide +kernel
theorem dX11_walked_59 : decode cX11_walked 59 = .ok (.iaload, 1) := by decide +kernel
theorem dX11_walked_60 : decode cX11_walked 60 = .ok (.aload_n 0, 1) := by decide +kernel
theorem dX11_walked_61 : decode cX11_walked 61 = .ok (.getfield 7, 3) := by decide +kernel
theorem dX11_walked_64 : decode cX11_walked 64 = .ok (.iload_n 3, 1) := by decide +kernel
theorem dX11_walked_65 : decode cX11_walked 65 = .ok (.iaload, 1) := by decide +kernel
theorem dX11_walked_66 : decode cX11_walked 66 = .ok (.if_icmp .eq 7, 3) := by decide +kernel
theorem dX11_walked_69 : decode cX11_walked 69 = .ok (.iconst 1, 1) := by decide +kernel
theorem dX11_walked_70 : decode cX11_walked 70 = .ok (.goto 4, 3) := by decide +kernel
theorem dX11_walked_73 : decode cX11_walked 73 = .ok (.iconst 0, 1) := by decide +kernel
theorem dX11_walked_74 : decode cX11_walked 74 = .ok (.istore_n 2, 1) := by decide +kernel
theorem dX11_walked_75 : decode cX11_walked 75 = .ok (.iinc 4 1, 3) := by decide +kernel
theorem dX11_walked_78 : decode cX11_walked 78 = .ok (.goto (-35), 3) := by decide +kernel
theorem dX11_walked_81 : decode cX11_walked 81 = .ok (.iinc 3 1, 3) := by decide +kernel
theorem dX11_walked_84 : decode cX11_walked 84 = .ok (.goto (-64), 3) := by decide +kernel
theorem dX11_walked_87 : decode cX11_walked 87 = .ok (.iload_n 2, 1) := by decide +kernel
theorem dX11_walked_88 : decode cX11_walked 88 = .ok (.ifCond .ne 9, 3) := by decide +kernel
theorem dX11_walked_91 : decode cX11_walked 91 = .ok (.aload_n 0, 1) := by decide +kernel
theorem dX11_walked_92 : decode cX11_walked 92 = .ok (.iconst 5, 1) := by decide +kernel
theorem dX11_walked_93 : decode cX11_walked 93 = .ok (.invokevirtual 248, 3) := by decide +kernel
theorem dX11_walked_96 : decode cX11_walked 96 = .ok (.ireturn, 1) := by decide +kernel
theorem dX11_walked_97 : decode cX11_walked 97 = .ok (.iconst 0, 1) := by decide +kernel
theorem dX11_walked_98 : decode cX11_walked 98 = .ok (.istore_n 3, 1) := by decide +kernel
theorem dX11_walked_99 : decode cX11_walked 99 = .ok (.iload_n 3, 1) := by decide +kernel
theorem dX11_walked_100 : decode cX11_walked 100 = .ok (.iload_n 1, 1) := by decide +kernel
theorem dX11_walked_101 : decode cX11_walked 101 = .ok (.if_icmp .ge 66, 3) := by decide +kernel
theorem dX11_walked_104 : decode cX11_walked 104 = .ok (.iconst 0, 1) := by decide +kernel
theorem dX11_walked_105 : decode cX11_walked 105 = .ok (.istore 4, 2) := by decide +kernel
theorem dX11_walked_107 : decode cX11_walked 107 = .ok (.iconst 0, 1) := by decide +kernel
theorem dX11_walked_108 : decode cX11_walked 108 = .ok (.istore 5, 2) := by decide +kernel
theorem dX11_walked_110 : decode cX11_walked 110 = .ok (.iload 5, 2) := by decide +kernel
theorem dX11_walked_112 : decode cX11_walked 112 = .ok (.iload_n 1, 1) := by decide +kernel
theorem dX11_walked_113 : decode cX11_walked 113 = .ok (.if_icmp .ge 35, 3) := by decide +kernel
theorem dX11_walked_116 : decode cX11_walked 116 = .ok (.iload 4, 2) := by decide +kernel
theorem dX11_walked_118 : decode cX11_walked 118 = .ok (.aload_n 0, 1) := by decide +kernel
theorem dX11_walked_119 : decode cX11_walked 119 = .ok (.getfield 7, 3) := by decide +kernel
theorem dX11_walked_122 : decode cX11_walked 122 = .ok (.iload 5, 2) := by decide +kernel
theorem dX11_walked_124 : decode cX11_walked 124 = .ok (.iaload, 1) := by decide +kernel
theorem dX11_walked_125 : decode cX11_walked 125 = .ok (.aload_n 0, 1) := by decide +kernel
theorem dX11_walked_126 : decode cX11_walked 126 = .ok (.getfield 7, 3) := by decide +kernel
theorem dX11_walked_129 : decode cX11_walked 129 = .ok (.iload_n 3, 1) := by decide +kernel
theorem dX11_walked_130 : decode cX11_walked 130 = .ok (.iaload, 1) := by decide +kernel
theorem dX11_walked_131 : decode cX11_walked 131 = .ok (.if_icmp .ge 7, 3) := by decide +kernel
theorem dX11_walked_134 : decode cX11_walked 134 = .ok (.iconst 1, 1) := by decide +kernel
theorem dX11_walked_135 : decode cX11_walked 135 = .ok (.goto 4, 3) := by decide +kernel
theorem dX11_walked_138 : decode cX11_walked 138 = .ok (.iconst 0, 1) := by decide +kernel
theorem dX11_walked_139 : decode cX11_walked 139 = .ok (.iadd, 1) := by decide +kernel
theorem dX11_walked_140 : decode cX11_walked 140 = .ok (.istore 4, 2) := by decide +kernel
theorem dX11_walked_142 : decode cX11_walked 142 = .ok (.iinc 5 1, 3) := by decide +kernel
theorem dX11_walked_145 : decode cX11_walked 145 = .ok (.goto (-35), 3) := by decide +kernel
theorem dX11_walked_148 : decode cX11_walked 148 = .ok (.aload_n 0, 1) := by decide +kernel
theorem dX11_walked_149 : decode cX11_walked 149 = .ok (.getfield 236, 3) := by decide +kernel
theorem dX11_walked_152 : decode cX11_walked 152 = .ok (.iload 4, 2) := by decide +kernel
theorem dX11_walked_154 : decode cX11_walked 154 = .ok (.aload_n 0, 1) := by decide +kernel
theorem dX11_walked_155 : decode cX11_walked 155 = .ok (.getfield 7, 3) := by decide +kernel
theorem dX11_walked_158 : decode cX11_walked 158 = .ok (.iload_n 3, 1) := by decide +kernel
theorem dX11_walked_159 : decode cX11_walked 159 = .ok (.iaload, 1) := by decide +kernel
theorem dX11_walked_160 : decode cX11_walked 160 = .ok (.iastore, 1) := by decide +kernel
theorem dX11_walked_161 : decode cX11_walked 161 = .ok (.iinc 3 1, 3) := by decide +kernel
theorem dX11_walked_164 : decode cX11_walked 164 = .ok (.goto (-65), 3) := by decide +kernel
theorem dX11_walked_167 : decode cX11_walked 167 = .ok (.aload_n 0, 1) := by decide +kernel
theorem dX11_walked_168 : decode cX11_walked 168 = .ok (.iload_n 1, 1) := by decide +kernel
theorem dX11_walked_169 : decode cX11_walked 169 = .ok (.invokevirtual 608, 3) := by decide +kernel
theorem dX11_walked_172 : decode cX11_walked 172 = .ok (.iconst 0, 1) := by decide +kernel
theorem dX11_walked_173 : decode cX11_walked 173 = .ok (.istore_n 3, 1) := by decide +kernel
theorem dX11_walked_174 : decode cX11_walked 174 = .ok (.iconst 0, 1) := by decide +kernel
theorem dX11_walked_175 : decode cX11_walked 175 = .ok (.istore 4, 2) := by decide +kernel
theorem dX11_walked_177 : decode cX11_walked 177 = .ok (.iload 4, 2) := by decide +kernel
theorem dX11_walked_179 : decode cX11_walked 179 = .ok (.iload_n 1, 1) := by decide +kernel
theorem dX11_walked_180 : decode cX11_walked 180 = .ok (.if_icmp .ge 40, 3) := by decide +kernel
theorem dX11_walked_183 : decode cX11_walked 183 = .ok (.iload_n 3, 1) := by decide +kernel
theorem dX11_walked_184 : decode cX11_walked 184 = .ok (.aload_n 0, 1) := by decide +kernel
theorem dX11_walked_185 : decode cX11_walked 185 = .ok (.iload 4, 2) := by decide +kernel
theorem dX11_walked_187 : decode cX11_walked 187 = .ok (.invokevirtual 605, 3) := by decide +kernel
theorem dX11_walked_190 : decode cX11_walked 190 = .ok (.ifCond .eq 21, 3) := by decide +kernel
theorem dX11_walked_193 : decode cX11_walked 193 = .ok (.aload_n 0, 1) := by decide +kernel
theorem dX11_walked_194 : decode cX11_walked 194 = .ok (.getfield 239, 3) := by decide +kernel
theorem dX11_walked_197 : decode cX11_walked 197 = .ok (.bipush 10, 2) := by decide +kernel
theorem dX11_walked_199 : decode cX11_walked 199 = .ok (.iconst 1, 1) := by decide +kernel
theorem dX11_walked_200 : decode cX11_walked 200 = .ok (.iload 4, 2) := by decide +kernel
theorem dX11_walked_202 : decode cX11_walked 202 = .ok (.ishl, 1) := by decide +kernel
theorem dX11_walked_203 : decode cX11_walked 203 = .ok (.imul, 1) := by decide +kernel
theorem dX11_walked_204 : decode cX11_walked 204 = .ok (.iload 4, 2) := by decide +kernel
theorem dX11_walked_206 : decode cX11_walked 206 = .ok (.iadd, 1) := by decide +kernel
theorem dX11_walked_207 : decode cX11_walked 207 = .ok (.iaload, 1) := by decide +kernel
theorem dX11_walked_208 : decode cX11_walked 208 = .ok (.goto 4, 3) := by decide +kernel
theorem dX11_walked_211 : decode cX11_walked 211 = .ok (.iconst 0, 1) := by decide +kernel
theorem dX11_walked_212 : decode cX11_walked 212 = .ok (.iadd, 1) := by decide +kernel
theorem dX11_walked_213 : decode cX11_walked 213 = .ok (.istore_n 3, 1) := by decide +kernel
theorem dX11_walked_214 : decode cX11_walked 214 = .ok (.iinc 4 1, 3) := by decide +kernel
theorem dX11_walked_217 : decode cX11_walked 217 = .ok (.goto (-40), 3) := by decide +kernel
theorem dX11_walked_220 : decode cX11_walked 220 = .ok (.aload_n 0, 1) := by decide +kernel
theorem dX11_walked_221 : decode cX11_walked 221 = .ok (.iload_n 3, 1) := by decide +kernel
theorem dX11_walked_222 : decode cX11_walked 222 = .ok (.ifCond .ne 7, 3) := by decide +kernel
theorem dX11_walked_225 : decode cX11_walked 225 = .ok (.iconst 0, 1) := by decide +kernel
theorem dX11_walked_226 : decode cX11_walked 226 = .ok (.goto 4, 3) := by decide +kernel
theorem dX11_walked_229 : decode cX11_walked 229 = .ok (.iload_n 1, 1) := by decide +kernel
theorem dX11_walked_230 : decode cX11_walked 230 = .ok (.putfield 230, 3) := by decide +kernel
theorem dX11_walked_233 : decode cX11_walked 233 = .ok (.iload_n 3, 1) := by decide +kernel
theorem dX11_walked_234 : decode cX11_walked 234 = .ok (.ifCond .le 8, 3) := by decide +kernel
theorem dX11_walked_237 : decode cX11_walked 237 = .ok (.aload_n 0, 1) := by decide +kernel
theorem dX11_walked_238 : decode cX11_walked 238 = .ok (.iload_n 1, 1) := by decide +kernel
theorem dX11_walked_239 : decode cX11_walked 239 = .ok (.invokevirtual 611, 3) := by decide +kernel
theorem dX11_walked_242 : decode cX11_walked 242 = .ok (.iload_n 3, 1) := by decide +kernel
theorem dX11_walked_243 : decode cX11_walked 243 = .ok (.ireturn, 1) := by decide +kernel
set_option maxRecDepth 100000 in
set_option maxHeartbeats 4000000 in
theorem X11_walked_J74_ok {g : Gm} {w : Wd} (C : Cx g w RX11 cX11_walked 6 (some .int)) {lv : Nat} (hlv : 3 < lv) {N : Nat} {r43 : Nat → Int → Int → Int → Int → Mem → Option (Int × Mem) } {l0 : Nat} {l1 : Int} {l3 : Int} {l4 : Int} {s0 : Int} {m : Mem} {out : (Int × Mem)} (hr43 : ∀ l0 l1 l2 l3 l4 m, r43 l0 l1 l2 l3 l4 m = some out → Jd g w 6 (rmL lv 0 0) (Qm g w (some (vI out.1)) out.2) 43 [some (vR l0), some (vI l1), some (vI l2), some (vI l3), some (vI l4), none] [] 312 m 0 0) (h : X11_walked_J74 N r43 l0 l1 l3 l4 s0 m = some out) : Jd g w 6 (rmL lv 0 0) (Qm g w (some (vI out.1)) out.2) 74 [some (vR l0), some (vI l1), none, some (vI l3), some (vI l4), none] [vI s0] 312 m 0 0 := by
  unfold X11_walked_J74 at h
  refine j_istore_n (ls' := [some (vR _), some (vI _), some (vI _), some (vI _), some (vI _), none]) C dX11_walked_74 (by decide) rfl ?_
  refine j_iinc (ls' := [some (vR _), some (vI _), some (vI _), some (vI _), some (vI _), none]) C dX11_walked_75 rfl (by decide) rfl ?_
  refine j_goto C 43 dX11_walked_78 rfl ?_
  exact hr43 _ _ _ _ _ _ h
set_option maxRecDepth 100000 in
set_option maxHeartbeats 4000000 in
theorem X11_walked_J73_ok {g : Gm} {w : Wd} (C : Cx g w RX11 cX11_walked 6 (some .int)) {lv : Nat} (hlv : 3 < lv) {N : Nat} {r43 : Nat → Int → Int → Int → Int → Mem → Option (Int × Mem) } {l0 : Nat} {l1 : Int} {l3 : Int} {l4 : Int} {m : Mem} {out : (Int × Mem)} (hr43 : ∀ l0 l1 l2 l3 l4 m, r43 l0 l1 l2 l3 l4 m = some out → Jd g w 6 (rmL lv 0 0) (Qm g w (some (vI out.1)) out.2) 43 [some (vR l0), some (vI l1), some (vI l2), some (vI l3), some (vI l4), none] [] 312 m 0 0) (h : X11_walked_J73 N r43 l0 l1 l3 l4 m = some out) : Jd g w 6 (rmL lv 0 0) (Qm g w (some (vI out.1)) out.2) 73 [some (vR l0), some (vI l1), none, some (vI l3), some (vI l4), none] [] 312 m 0 0 := by
  unfold X11_walked_J73 at h
  refine j_iconst C dX11_walked_73 rfl ?_
  exact X11_walked_J74_ok C hlv hr43 h
set_option maxRecDepth 100000 in
set_option maxHeartbeats 4000000 in
theorem X11_walked_L43_bok {g : Gm} {w : Wd} (C : Cx g w RX11 cX11_walked 6 (some .int)) {lv : Nat} (hlv : 3 < lv) {N : Nat} {k81 : Nat → Int → Int → Int → Mem → Option (Int × Mem)} {r43 : Nat → Int → Int → Int → Int → Mem → Option (Int × Mem)} {l0 : Nat} {l1 : Int} {l2 : Int} {l3 : Int} {l4 : Int} {m : Mem} {out : (Int × Mem)} (hk81 : ∀ l0 l1 l2 l3 m, k81 l0 l1 l2 l3 m = some out → Jd g w 6 (rmL lv 0 0) (Qm g w (some (vI out.1)) out.2) 81 [some (vR l0), some (vI l1), some (vI l2), some (vI l3), none, none] [] 312 m 0 0) (hr43 : ∀ l0 l1 l2 l3 l4 m, r43 l0 l1 l2 l3 l4 m = some out → Jd g w 6 (rmL lv 0 0) (Qm g w (some (vI out.1)) out.2) 43 [some (vR l0), some (vI l1), some (vI l2), some (vI l3), some (vI l4), none] [] 312 m 0 0) (h : X11_walked_L43_b N k81 r43 l0 l1 l2 l3 l4 m = some out) : Jd g w 6 (rmL lv 0 0) (Qm g w (some (vI out.1)) out.2) 43 [some (vR l0), some (vI l1), some (vI l2), some (vI l3), some (vI l4), none] [] 312 m 0 0 := by
  unfold X11_walked_L43_b at h
  refine j_iload C dX11_walked_43 rfl ?_
  refine j_iload_n C dX11_walked_45 rfl ?_
  refine j_icmp_ge C 81 dX11_walked_46 rfl h (fun c13 h => ?_) (fun c13 h => ?_)
  · refine j_mask [true, true, true, true, false, false] (ls' := [some (vR _), some (vI _), some (vI _), some (vI _), none, none]) rfl ?_
    exact hk81 _ _ _ _ _ h
  · refine j_iload_n C dX11_walked_49 rfl ?_
    refine j_if_eq C 73 dX11_walked_50 rfl h (fun c12 h => ?_) (fun c12 h => ?_)
    · refine j_mask [true, true, false, true, true, false] (ls' := [some (vR _), some (vI _), none, some (vI _), some (vI _), none]) rfl ?_
      exact X11_walked_J73_ok C hlv hr43 h
    · refine j_aload_n C dX11_walked_53 rfl ?_
      refine j_getR C dX11_walked_54 CF11 (by decide) fl_X11_7 rfl rfl h (fun t7 h => ?_)
      refine j_iload C dX11_walked_57 rfl ?_
      refine j_iald C dX11_walked_59 rfl h (fun t8 h => ?_)
      refine j_aload_n C dX11_walked_60 rfl ?_
      refine j_getR C dX11_walked_61 CF11 (by decide) fl_X11_7 rfl rfl h (fun t9 h => ?_)
      refine j_iload_n C dX11_walked_64 rfl ?_
      refine j_iald C dX11_walked_65 rfl h (fun t10 h => ?_)
      refine j_icmp_eq C 73 dX11_walked_66 rfl h (fun c11 h => ?_) (fun c11 h => ?_)
      · refine j_mask [true, true, false, true, true, false] (ls' := [some (vR _), some (vI _), none, some (vI _), some (vI _), none]) rfl ?_
        exact X11_walked_J73_ok C hlv hr43 h
      · refine j_iconst C dX11_walked_69 rfl ?_
        refine j_goto C 74 dX11_walked_70 rfl ?_
        refine j_mask [true, true, false, true, true, false] (ls' := [some (vR _), some (vI _), none, some (vI _), some (vI _), none]) rfl ?_
        exact X11_walked_J74_ok C hlv hr43 h
set_option maxRecDepth 100000 in
set_option maxHeartbeats 4000000 in
theorem X11_walked_L43_ok {g : Gm} {w : Wd} (C : Cx g w RX11 cX11_walked 6 (some .int)) {lv : Nat} (hlv : 3 < lv) {N : Nat} {k81 : Nat → Int → Int → Int → Mem → Option (Int × Mem)} {out : (Int × Mem)} (hk81 : ∀ l0 l1 l2 l3 m, k81 l0 l1 l2 l3 m = some out → Jd g w 6 (rmL lv 0 0) (Qm g w (some (vI out.1)) out.2) 81 [some (vR l0), some (vI l1), some (vI l2), some (vI l3), none, none] [] 312 m 0 0) (f : Nat) : ∀ {l0 : Nat} {l1 : Int} {l2 : Int} {l3 : Int} {l4 : Int} {m : Mem}, X11_walked_L43 N k81 f l0 l1 l2 l3 l4 m = some out → Jd g w 6 (rmL lv 0 0) (Qm g w (some (vI out.1)) out.2) 43 [some (vR l0), some (vI l1), some (vI l2), some (vI l3), some (vI l4), none] [] 312 m 0 0 := by
  induction f with
  | zero => intro l0 l1 l2 l3 l4 m h; exact none_ne (α := (Int × Mem)) h
  | succ f ih => intro l0 l1 l2 l3 l4 m h; exact X11_walked_L43_bok C hlv hk81 (fun l0 l1 l2 l3 l4 m h => ih h) h
set_option maxRecDepth 100000 in
set_option maxHeartbeats 4000000 in
theorem X11_walked_L20_bok {g : Gm} {w : Wd} (C : Cx g w RX11 cX11_walked 6 (some .int)) {lv : Nat} (hlv : 3 < lv) {N : Nat} {k87 : Nat → Int → Int → Mem → Option (Int × Mem)} {r20 : Nat → Int → Int → Int → Mem → Option (Int × Mem)} {l0 : Nat} {l1 : Int} {l2 : Int} {l3 : Int} {m : Mem} {out : (Int × Mem)} (hk87 : ∀ l0 l1 l2 m, k87 l0 l1 l2 m = some out → Jd g w 6 (rmL lv 0 0) (Qm g w (some (vI out.1)) out.2) 87 [some (vR l0), some (vI l1), some (vI l2), none, none, none] [] 312 m 0 0) (hr20 : ∀ l0 l1 l2 l3 m, r20 l0 l1 l2 l3 m = some out → Jd g w 6 (rmL lv 0 0) (Qm g w (some (vI out.1)) out.2) 20 [some (vR l0), some (vI l1), some (vI l2), some (vI l3), none, none] [] 312 m 0 0) (h : X11_walked_L20_b N k87 r20 l0 l1 l2 l3 m = some out) : Jd g w 6 (rmL lv 0 0) (Qm g w (some (vI out.1)) out.2) 20 [some (vR l0), some (vI l1), some (vI l2), some (vI l3), none, none] [] 312 m 0 0 := by
  unfold X11_walked_L20_b at h
  refine j_iload_n C dX11_walked_20 rfl ?_
  refine j_iload_n C dX11_walked_21 rfl ?_
  refine j_icmp_ge C 87 dX11_walked_22 rfl h (fun c20 h => ?_) (fun c20 h => ?_)
  · refine j_mask [true, true, true, false, false, false] (ls' := [some (vR _), some (vI _), some (vI _), none, none, none]) rfl ?_
    exact hk87 _ _ _ _ h
  · refine j_iload_n C dX11_walked_25 rfl ?_
    refine j_if_eq C 87 dX11_walked_26 rfl h (fun c19 h => ?_) (fun c19 h => ?_)
    · refine j_mask [true, true, true, false, false, false] (ls' := [some (vR _), some (vI _), some (vI _), none, none, none]) rfl ?_
      exact hk87 _ _ _ _ h
    · refine j_aload_n C dX11_walked_29 rfl ?_
      refine j_aload_n C dX11_walked_30 rfl ?_
      refine j_getR C dX11_walked_31 CF11 (by decide) fl_X11_7 rfl rfl h (fun t4 h => ?_)
      refine j_iload_n C dX11_walked_34 rfl ?_
      refine j_iald C dX11_walked_35 rfl h (fun t5 h => ?_)
      obtain ⟨p6, ep6, h⟩ := bind_some h
      have qp6 := X11_isCell_ct ep6
      refine j_cVI C dX11_walked_36 vl_X11_532 CF11 rfl qp6.1 qp6.2 (by omega) rfl rfl (Nat.le_of_ble_eq_true rfl) ?_
      refine j_istore_n (ls' := [some (vR _), some (vI _), some (vI _), some (vI _), none, none]) C dX11_walked_39 (by decide) rfl ?_
      refine j_iconst C dX11_walked_40 rfl ?_
      refine j_istore (ls' := [some (vR _), some (vI _), some (vI _), some (vI _), some (vI _), none]) C dX11_walked_41 (by decide) rfl ?_
      refine X11_walked_L43_ok C hlv (fun z14 z15 z16 z17 m18 h => ?_) N h
      refine j_iinc (ls' := [some (vR _), some (vI _), some (vI _), some (vI _), none, none]) C dX11_walked_81 rfl (by decide) rfl ?_
      refine j_goto C 20 dX11_walked_84 rfl ?_
      exact hr20 _ _ _ _ _ h
set_option maxRecDepth 100000 in
set_option maxHeartbeats 4000000 in
theorem X11_walked_L20_ok {g : Gm} {w : Wd} (C : Cx g w RX11 cX11_walked 6 (some .int)) {lv : Nat} (hlv : 3 < lv) {N : Nat} {k87 : Nat → Int → Int → Mem → Option (Int × Mem)} {out : (Int × Mem)} (hk87 : ∀ l0 l1 l2 m, k87 l0 l1 l2 m = some out → Jd g w 6 (rmL lv 0 0) (Qm g w (some (vI out.1)) out.2) 87 [some (vR l0), some (vI l1), some (vI l2), none, none, none] [] 312 m 0 0) (f : Nat) : ∀ {l0 : Nat} {l1 : Int} {l2 : Int} {l3 : Int} {m : Mem}, X11_walked_L20 N k87 f l0 l1 l2 l3 m = some out → Jd g w 6 (rmL lv 0 0) (Qm g w (some (vI out.1)) out.2) 20 [some (vR l0), some (vI l1), some (vI l2), some (vI l3), none, none] [] 312 m 0 0 := by
  induction f with
  | zero => intro l0 l1 l2 l3 m h; exact none_ne (α := (Int × Mem)) h
  | succ f ih => intro l0 l1 l2 l3 m h; exact X11_walked_L20_bok C hlv hk87 (fun l0 l1 l2 l3 m h => ih h) h
set_option maxRecDepth 100000 in
set_option maxHeartbeats 4000000 in
theorem X11_walked_J139_ok {g : Gm} {w : Wd} (C : Cx g w RX11 cX11_walked 6 (some .int)) {lv : Nat} (hlv : 3 < lv) {N : Nat} {r110 : Nat → Int → Int → Int → Int → Mem → Option (Int × Mem) } {l0 : Nat} {l1 : Int} {l3 : Int} {l5 : Int} {s0 : Int} {s1 : Int} {m : Mem} {out : (Int × Mem)} (hr110 : ∀ l0 l1 l3 l4 l5 m, r110 l0 l1 l3 l4 l5 m = some out → Jd g w 6 (rmL lv 0 0) (Qm g w (some (vI out.1)) out.2) 110 [some (vR l0), some (vI l1), none, some (vI l3), some (vI l4), some (vI l5)] [] 312 m 0 0) (h : X11_walked_J139 N r110 l0 l1 l3 l5 s0 s1 m = some out) : Jd g w 6 (rmL lv 0 0) (Qm g w (some (vI out.1)) out.2) 139 [some (vR l0), some (vI l1), none, some (vI l3), none, some (vI l5)] [vI s1, vI s0] 312 m 0 0 := by
  unfold X11_walked_J139 at h
  refine j_iadd C dX11_walked_139 ?_
  refine j_istore (ls' := [some (vR _), some (vI _), none, some (vI _), some (vI _), some (vI _)]) C dX11_walked_140 (by decide) rfl ?_
  refine j_iinc (ls' := [some (vR _), some (vI _), none, some (vI _), some (vI _), some (vI _)]) C dX11_walked_142 rfl (by decide) rfl ?_
  refine j_goto C 110 dX11_walked_145 rfl ?_
  exact hr110 _ _ _ _ _ _ h
set_option maxRecDepth 100000 in
set_option maxHeartbeats 4000000 in
theorem X11_walked_L110_bok {g : Gm} {w : Wd} (C : Cx g w RX11 cX11_walked 6 (some .int)) {lv : Nat} (hlv : 3 < lv) {N : Nat} {k148 : Nat → Int → Int → Int → Mem → Option (Int × Mem)} {r110 : Nat → Int → Int → Int → Int → Mem → Option (Int × Mem)} {l0 : Nat} {l1 : Int} {l3 : Int} {l4 : Int} {l5 : Int} {m : Mem} {out : (Int × Mem)} (hk148 : ∀ l0 l1 l3 l4 m, k148 l0 l1 l3 l4 m = some out → Jd g w 6 (rmL lv 0 0) (Qm g w (some (vI out.1)) out.2) 148 [some (vR l0), some (vI l1), none, some (vI l3), some (vI l4), none] [] 312 m 0 0) (hr110 : ∀ l0 l1 l3 l4 l5 m, r110 l0 l1 l3 l4 l5 m = some out → Jd g w 6 (rmL lv 0 0) (Qm g w (some (vI out.1)) out.2) 110 [some (vR l0), some (vI l1), none, some (vI l3), some (vI l4), some (vI l5)] [] 312 m 0 0) (h : X11_walked_L110_b N k148 r110 l0 l1 l3 l4 l5 m = some out) : Jd g w 6 (rmL lv 0 0) (Qm g w (some (vI out.1)) out.2) 110 [some (vR l0), some (vI l1), none, some (vI l3), some (vI l4), some (vI l5)] [] 312 m 0 0 := by
  unfold X11_walked_L110_b at h
  refine j_iload C dX11_walked_110 rfl ?_
  refine j_iload_n C dX11_walked_112 rfl ?_
  refine j_icmp_ge C 148 dX11_walked_113 rfl h (fun c30 h => ?_) (fun c30 h => ?_)
  · refine j_mask [true, true, false, true, true, false] (ls' := [some (vR _), some (vI _), none, some (vI _), some (vI _), none]) rfl ?_
    exact hk148 _ _ _ _ _ h
  · refine j_iload C dX11_walked_116 rfl ?_
    refine j_aload_n C dX11_walked_118 rfl ?_
    refine j_getR C dX11_walked_119 CF11 (by decide) fl_X11_7 rfl rfl h (fun t25 h => ?_)
    refine j_iload C dX11_walked_122 rfl ?_
    refine j_iald C dX11_walked_124 rfl h (fun t26 h => ?_)
    refine j_aload_n C dX11_walked_125 rfl ?_
    refine j_getR C dX11_walked_126 CF11 (by decide) fl_X11_7 rfl rfl h (fun t27 h => ?_)
    refine j_iload_n C dX11_walked_129 rfl ?_
    refine j_iald C dX11_walked_130 rfl h (fun t28 h => ?_)
    refine j_icmp_ge C 138 dX11_walked_131 rfl h (fun c29 h => ?_) (fun c29 h => ?_)
    · refine j_iconst C dX11_walked_138 rfl ?_
      refine j_mask [true, true, false, true, false, true] (ls' := [some (vR _), some (vI _), none, some (vI _), none, some (vI _)]) rfl ?_
      exact X11_walked_J139_ok C hlv hr110 h
    · refine j_iconst C dX11_walked_134 rfl ?_
      refine j_goto C 139 dX11_walked_135 rfl ?_
      refine j_mask [true, true, false, true, false, true] (ls' := [some (vR _), some (vI _), none, some (vI _), none, some (vI _)]) rfl ?_
      exact X11_walked_J139_ok C hlv hr110 h
set_option maxRecDepth 100000 in
set_option maxHeartbeats 4000000 in
theorem X11_walked_L110_ok {g : Gm} {w : Wd} (C : Cx g w RX11 cX11_walked 6 (some .int)) {lv : Nat} (hlv : 3 < lv) {N : Nat} {k148 : Nat → Int → Int → Int → Mem → Option (Int × Mem)} {out : (Int × Mem)} (hk148 : ∀ l0 l1 l3 l4 m, k148 l0 l1 l3 l4 m = some out → Jd g w 6 (rmL lv 0 0) (Qm g w (some (vI out.1)) out.2) 148 [some (vR l0), some (vI l1), none, some (vI l3), some (vI l4), none] [] 312 m 0 0) (f : Nat) : ∀ {l0 : Nat} {l1 : Int} {l3 : Int} {l4 : Int} {l5 : Int} {m : Mem}, X11_walked_L110 N k148 f l0 l1 l3 l4 l5 m = some out → Jd g w 6 (rmL lv 0 0) (Qm g w (some (vI out.1)) out.2) 110 [some (vR l0), some (vI l1), none, some (vI l3), some (vI l4), some (vI l5)] [] 312 m 0 0 := by
  induction f with
  | zero => intro l0 l1 l3 l4 l5 m h; exact none_ne (α := (Int × Mem)) h
  | succ f ih => intro l0 l1 l3 l4 l5 m h; exact X11_walked_L110_bok C hlv hk148 (fun l0 l1 l3 l4 l5 m h => ih h) h
set_option maxRecDepth 100000 in
set_option maxHeartbeats 4000000 in
theorem X11_walked_L99_bok {g : Gm} {w : Wd} (C : Cx g w RX11 cX11_walked 6 (some .int)) {lv : Nat} (hlv : 3 < lv) {N : Nat} {k167 : Nat → Int → Mem → Option (Int × Mem)} {r99 : Nat → Int → Int → Mem → Option (Int × Mem)} {l0 : Nat} {l1 : Int} {l3 : Int} {m : Mem} {out : (Int × Mem)} (hk167 : ∀ l0 l1 m, k167 l0 l1 m = some out → Jd g w 6 (rmL lv 0 0) (Qm g w (some (vI out.1)) out.2) 167 [some (vR l0), some (vI l1), none, none, none, none] [] 312 m 0 0) (hr99 : ∀ l0 l1 l3 m, r99 l0 l1 l3 m = some out → Jd g w 6 (rmL lv 0 0) (Qm g w (some (vI out.1)) out.2) 99 [some (vR l0), some (vI l1), none, some (vI l3), none, none] [] 312 m 0 0) (h : X11_walked_L99_b N k167 r99 l0 l1 l3 m = some out) : Jd g w 6 (rmL lv 0 0) (Qm g w (some (vI out.1)) out.2) 99 [some (vR l0), some (vI l1), none, some (vI l3), none, none] [] 312 m 0 0 := by
  unfold X11_walked_L99_b at h
  refine j_iload_n C dX11_walked_99 rfl ?_
  refine j_iload_n C dX11_walked_100 rfl ?_
  refine j_icmp_ge C 167 dX11_walked_101 rfl h (fun c40 h => ?_) (fun c40 h => ?_)
  · refine j_mask [true, true, false, false, false, false] (ls' := [some (vR _), some (vI _), none, none, none, none]) rfl ?_
    exact hk167 _ _ _ h
  · refine j_iconst C dX11_walked_104 rfl ?_
    refine j_istore (ls' := [some (vR _), some (vI _), none, some (vI _), some (vI _), none]) C dX11_walked_105 (by decide) rfl ?_
    refine j_iconst C dX11_walked_107 rfl ?_
    refine j_istore (ls' := [some (vR _), some (vI _), none, some (vI _), some (vI _), some (vI _)]) C dX11_walked_108 (by decide) rfl ?_
    refine X11_walked_L110_ok C hlv (fun z31 z32 z33 z34 m35 h => ?_) N h
    refine j_aload_n C dX11_walked_148 rfl ?_
    refine j_getR C dX11_walked_149 CF11 (by decide) fl_X11_236 rfl rfl h (fun t36 h => ?_)
    refine j_iload C dX11_walked_152 rfl ?_
    refine j_aload_n C dX11_walked_154 rfl ?_
    refine j_getR C dX11_walked_155 CF11 (by decide) fl_X11_7 rfl rfl h (fun t37 h => ?_)
    refine j_iload_n C dX11_walked_158 rfl ?_
    refine j_iald C dX11_walked_159 rfl h (fun t38 h => ?_)
    refine j_iast C dX11_walked_160 rfl h (fun m39 h => ?_)
    refine j_iinc (ls' := [some (vR _), some (vI _), none, some (vI _), some (vI _), none]) C dX11_walked_161 rfl (by decide) rfl ?_
    refine j_goto C 99 dX11_walked_164 rfl ?_
    refine j_mask [true, true, false, true, false, false] (ls' := [some (vR _), some (vI _), none, some (vI _), none, none]) rfl ?_
    exact hr99 _ _ _ _ h
set_option maxRecDepth 100000 in
set_option maxHeartbeats 4000000 in
theorem X11_walked_L99_ok {g : Gm} {w : Wd} (C : Cx g w RX11 cX11_walked 6 (some .int)) {lv : Nat} (hlv : 3 < lv) {N : Nat} {k167 : Nat → Int → Mem → Option (Int × Mem)} {out : (Int × Mem)} (hk167 : ∀ l0 l1 m, k167 l0 l1 m = some out → Jd g w 6 (rmL lv 0 0) (Qm g w (some (vI out.1)) out.2) 167 [some (vR l0), some (vI l1), none, none, none, none] [] 312 m 0 0) (f : Nat) : ∀ {l0 : Nat} {l1 : Int} {l3 : Int} {m : Mem}, X11_walked_L99 N k167 f l0 l1 l3 m = some out → Jd g w 6 (rmL lv 0 0) (Qm g w (some (vI out.1)) out.2) 99 [some (vR l0), some (vI l1), none, some (vI l3), none, none] [] 312 m 0 0 := by
  induction f with
  | zero => intro l0 l1 l3 m h; exact none_ne (α := (Int × Mem)) h
  | succ f ih => intro l0 l1 l3 m h; exact X11_walked_L99_bok C hlv hk167 (fun l0 l1 l3 m h => ih h) h
set_option maxRecDepth 100000 in
set_option maxHeartbeats 4000000 in
theorem X11_walked_J212_ok {g : Gm} {w : Wd} (C : Cx g w RX11 cX11_walked 6 (some .int)) {lv : Nat} (hlv : 3 < lv) {N : Nat} {r177 : Nat → Int → Int → Int → Mem → Option (Int × Mem) } {l0 : Nat} {l1 : Int} {l4 : Int} {s0 : Int} {s1 : Int} {m : Mem} {out : (Int × Mem)} (hr177 : ∀ l0 l1 l3 l4 m, r177 l0 l1 l3 l4 m = some out → Jd g w 6 (rmL lv 0 0) (Qm g w (some (vI out.1)) out.2) 177 [some (vR l0), some (vI l1), none, some (vI l3), some (vI l4), none] [] 312 m 0 0) (h : X11_walked_J212 N r177 l0 l1 l4 s0 s1 m = some out) : Jd g w 6 (rmL lv 0 0) (Qm g w (some (vI out.1)) out.2) 212 [some (vR l0), some (vI l1), none, none, some (vI l4), none] [vI s1, vI s0] 312 m 0 0 := by
  unfold X11_walked_J212 at h
  refine j_iadd C dX11_walked_212 ?_
  refine j_istore_n (ls' := [some (vR _), some (vI _), none, some (vI _), some (vI _), none]) C dX11_walked_213 (by decide) rfl ?_
  refine j_iinc (ls' := [some (vR _), some (vI _), none, some (vI _), some (vI _), none]) C dX11_walked_214 rfl (by decide) rfl ?_
  refine j_goto C 177 dX11_walked_217 rfl ?_
  exact hr177 _ _ _ _ _ h
set_option maxRecDepth 100000 in
set_option maxHeartbeats 4000000 in
theorem X11_walked_L177_bok {g : Gm} {w : Wd} (C : Cx g w RX11 cX11_walked 6 (some .int)) {lv : Nat} (hlv : 3 < lv) {N : Nat} {k220 : Nat → Int → Int → Mem → Option (Int × Mem)} {r177 : Nat → Int → Int → Int → Mem → Option (Int × Mem)} {l0 : Nat} {l1 : Int} {l3 : Int} {l4 : Int} {m : Mem} {out : (Int × Mem)} (hk220 : ∀ l0 l1 l3 m, k220 l0 l1 l3 m = some out → Jd g w 6 (rmL lv 0 0) (Qm g w (some (vI out.1)) out.2) 220 [some (vR l0), some (vI l1), none, some (vI l3), none, none] [] 312 m 0 0) (hr177 : ∀ l0 l1 l3 l4 m, r177 l0 l1 l3 l4 m = some out → Jd g w 6 (rmL lv 0 0) (Qm g w (some (vI out.1)) out.2) 177 [some (vR l0), some (vI l1), none, some (vI l3), some (vI l4), none] [] 312 m 0 0) (h : X11_walked_L177_b N k220 r177 l0 l1 l3 l4 m = some out) : Jd g w 6 (rmL lv 0 0) (Qm g w (some (vI out.1)) out.2) 177 [some (vR l0), some (vI l1), none, some (vI l3), some (vI l4), none] [] 312 m 0 0 := by
  unfold X11_walked_L177_b at h
  refine j_iload C dX11_walked_177 rfl ?_
  refine j_iload_n C dX11_walked_179 rfl ?_
  refine j_icmp_ge C 220 dX11_walked_180 rfl h (fun c49 h => ?_) (fun c49 h => ?_)
  · refine j_mask [true, true, false, true, false, false] (ls' := [some (vR _), some (vI _), none, some (vI _), none, none]) rfl ?_
    exact hk220 _ _ _ _ h
  · refine j_iload_n C dX11_walked_183 rfl ?_
    refine j_aload_n C dX11_walked_184 rfl ?_
    refine j_iload C dX11_walked_185 rfl ?_
    obtain ⟨p45, ep45, h⟩ := bind_some h
    have qp45 := X11_canBegin_ct ep45
    refine j_cVI C dX11_walked_187 vl_X11_605 CF11 rfl qp45.1 qp45.2 (by omega) rfl rfl (Nat.le_of_ble_eq_true rfl) ?_
    refine j_if_eq C 211 dX11_walked_190 rfl h (fun c48 h => ?_) (fun c48 h => ?_)
    · refine j_iconst C dX11_walked_211 rfl ?_
      refine j_mask [true, true, false, false, true, false] (ls' := [some (vR _), some (vI _), none, none, some (vI _), none]) rfl ?_
      exact X11_walked_J212_ok C hlv hr177 h
    · refine j_aload_n C dX11_walked_193 rfl ?_
      refine j_getR C dX11_walked_194 CF11 (by decide) fl_X11_239 rfl rfl h (fun t46 h => ?_)
      refine j_bipush C dX11_walked_197 rfl ?_
      refine j_iconst C dX11_walked_199 rfl ?_
      refine j_iload C dX11_walked_200 rfl ?_
      refine j_ishl C dX11_walked_202 ?_
      refine j_imul C dX11_walked_203 ?_
      refine j_iload C dX11_walked_204 rfl ?_
      refine j_iadd C dX11_walked_206 ?_
      refine j_iald C dX11_walked_207 rfl h (fun t47 h => ?_)
      refine j_goto C 212 dX11_walked_208 rfl ?_
      refine j_mask [true, true, false, false, true, false] (ls' := [some (vR _), some (vI _), none, none, some (vI _), none]) rfl ?_
      exact X11_walked_J212_ok C hlv hr177 h
set_option maxRecDepth 100000 in
set_option maxHeartbeats 4000000 in
theorem X11_walked_L177_ok {g : Gm} {w : Wd} (C : Cx g w RX11 cX11_walked 6 (some .int)) {lv : Nat} (hlv : 3 < lv) {N : Nat} {k220 : Nat → Int → Int → Mem → Option (Int × Mem)} {out : (Int × Mem)} (hk220 : ∀ l0 l1 l3 m, k220 l0 l1 l3 m = some out → Jd g w 6 (rmL lv 0 0) (Qm g w (some (vI out.1)) out.2) 220 [some (vR l0), some (vI l1), none, some (vI l3), none, none] [] 312 m 0 0) (f : Nat) : ∀ {l0 : Nat} {l1 : Int} {l3 : Int} {l4 : Int} {m : Mem}, X11_walked_L177 N k220 f l0 l1 l3 l4 m = some out → Jd g w 6 (rmL lv 0 0) (Qm g w (some (vI out.1)) out.2) 177 [some (vR l0), some (vI l1), none, some (vI l3), some (vI l4), none] [] 312 m 0 0 := by
  induction f with
  | zero => intro l0 l1 l3 l4 m h; exact none_ne (α := (Int × Mem)) h
  | succ f ih => intro l0 l1 l3 l4 m h; exact X11_walked_L177_bok C hlv hk220 (fun l0 l1 l3 l4 m h => ih h) h
set_option maxRecDepth 100000 in
set_option maxHeartbeats 4000000 in
theorem X11_walked_J230_ok {g : Gm} {w : Wd} (C : Cx g w RX11 cX11_walked 6 (some .int)) {lv : Nat} (hlv : 3 < lv) {N : Nat} {l0 : Nat} {l1 : Int} {l3 : Int} {s0 : Nat} {s1 : Int} {m : Mem} {out : (Int × Mem)} (h : X11_walked_J230 N l0 l1 l3 s0 s1 m = some out) : Jd g w 6 (rmL lv 0 0) (Qm g w (some (vI out.1)) out.2) 230 [some (vR l0), some (vI l1), none, some (vI l3), none, none] [vI s1, vR s0] 312 m 0 0 := by
  unfold X11_walked_J230 at h
  refine j_putI C dX11_walked_230 CF11 (by decide) fl_X11_230 rfl rfl rfl rfl h (fun m54 h => ?_)
  refine j_iload_n C dX11_walked_233 rfl ?_
  refine j_if_le C 242 dX11_walked_234 rfl h (fun c56 h => ?_) (fun c56 h => ?_)
  · refine j_iload_n C dX11_walked_242 rfl ?_
    have e := Option.some.inj h
    subst e
    exact j_ri C dX11_walked_243 rfl rfl rfl
  · refine j_aload_n C dX11_walked_237 rfl ?_
    refine j_iload_n C dX11_walked_238 rfl ?_
    obtain ⟨p55, ep55, h⟩ := bind_some h
    have qp55 := X11_findsFirst_ct ep55
    refine j_cVV C dX11_walked_239 vl_X11_611 CF11 rfl qp55.1 qp55.2 (by omega) rfl rfl (Nat.le_of_ble_eq_true rfl) ?_
    refine j_iload_n C dX11_walked_242 rfl ?_
    have e := Option.some.inj h
    subst e
    exact j_ri C dX11_walked_243 rfl rfl rfl
set_option maxRecDepth 100000 in
set_option maxHeartbeats 4000000 in
theorem X11_walked_ct {N : Nat} {l0 : Nat} {m : Mem} {out : (Int × Mem)} (h : X11_walked N l0 m = some out) : shK l0 = 11 + 10 ∧ CT yX11_walked cX11_walked 6 (some .int) 4 0 0 [vR l0] 312 m (some (vI out.1)) 312 out.2 := by
  unfold X11_walked at h
  obtain ⟨hK, h⟩ := ite_some h
  have hlv : 3 < 4 := by decide
  refine ⟨hK, CT.of (by decide +kernel) rfl (Nat.le_of_ble_eq_true rfl) (ls := [some (vR l0), none, none, none, none, none]) rfl fun g w C _ => ?_⟩
  refine j_aload_n C dX11_walked_0 rfl ?_
  refine j_getI C dX11_walked_1 CF11 (by decide) fl_X11_13 rfl rfl h (fun t1 h => ?_)
  refine j_istore_n (ls' := [some (vR _), some (vI _), none, none, none, none]) C dX11_walked_4 (by decide) rfl ?_
  refine j_aload_n C dX11_walked_5 rfl ?_
  refine j_iconst C dX11_walked_6 rfl ?_
  refine j_putI C dX11_walked_7 CF11 (by decide) fl_X11_13 rfl rfl rfl rfl h (fun m2 h => ?_)
  refine j_iload_n C dX11_walked_10 rfl ?_
  refine j_iconst C dX11_walked_11 rfl ?_
  refine j_bipush C dX11_walked_12 rfl ?_
  obtain ⟨p3, ep3, h⟩ := bind_some h
  have qp3 := X11_is_ct ep3
  refine j_cSI C dX11_walked_14 sl_X11_334 qp3 (by omega) rfl rfl (Nat.le_of_ble_eq_true rfl) ?_
  refine j_istore_n (ls' := [some (vR _), some (vI _), some (vI _), none, none, none]) C dX11_walked_17 (by decide) rfl ?_
  refine j_iconst C dX11_walked_18 rfl ?_
  refine j_istore_n (ls' := [some (vR _), some (vI _), some (vI _), some (vI _), none, none]) C dX11_walked_19 (by decide) rfl ?_
  refine X11_walked_L20_ok C hlv (fun z21 z22 z23 m24 h => ?_) N h
  refine j_iload_n C dX11_walked_87 rfl ?_
  refine j_if_ne C 97 dX11_walked_88 rfl h (fun c59 h => ?_) (fun c59 h => ?_)
  · refine j_iconst C dX11_walked_97 rfl ?_
    refine j_istore_n (ls' := [some (vR _), some (vI _), some (vI _), some (vI _), none, none]) C dX11_walked_98 (by decide) rfl ?_
    refine j_mask [true, true, false, true, false, false] (ls' := [some (vR _), some (vI _), none, some (vI _), none, none]) rfl ?_
    refine X11_walked_L99_ok C hlv (fun z41 z42 m43 h => ?_) N h
    refine j_aload_n C dX11_walked_167 rfl ?_
    refine j_iload_n C dX11_walked_168 rfl ?_
    obtain ⟨p44, ep44, h⟩ := bind_some h
    have qp44 := X11_countsWays_ct ep44
    refine j_cVV C dX11_walked_169 vl_X11_608 CF11 rfl qp44.1 qp44.2 (by omega) rfl rfl (Nat.le_of_ble_eq_true rfl) ?_
    refine j_iconst C dX11_walked_172 rfl ?_
    refine j_istore_n (ls' := [some (vR _), some (vI _), none, some (vI _), none, none]) C dX11_walked_173 (by decide) rfl ?_
    refine j_iconst C dX11_walked_174 rfl ?_
    refine j_istore (ls' := [some (vR _), some (vI _), none, some (vI _), some (vI _), none]) C dX11_walked_175 (by decide) rfl ?_
    refine X11_walked_L177_ok C hlv (fun z50 z51 z52 m53 h => ?_) N h
    refine j_aload_n C dX11_walked_220 rfl ?_
    refine j_iload_n C dX11_walked_221 rfl ?_
    refine j_if_ne C 229 dX11_walked_222 rfl h (fun c57 h => ?_) (fun c57 h => ?_)
    · refine j_iload_n C dX11_walked_229 rfl ?_
      exact X11_walked_J230_ok C hlv h
    · refine j_iconst C dX11_walked_225 rfl ?_
      refine j_goto C 230 dX11_walked_226 rfl ?_
      exact X11_walked_J230_ok C hlv h
  · refine j_aload_n C dX11_walked_91 rfl ?_
    refine j_iconst C dX11_walked_92 rfl ?_
    obtain ⟨p58, ep58, h⟩ := bind_some h
    have qp58 := X11_refuses_ct ep58
    refine j_cVI C dX11_walked_93 vl_X11_248 CF11 rfl qp58.1 qp58.2 (by omega) rfl rfl (Nat.le_of_ble_eq_true rfl) ?_
    have e := Option.some.inj h
    subst e
    exact j_ri C dX11_walked_96 rfl rfl rfl
theorem dX11_wall_0 : decode cX11_wall 0 = .ok (.aload_n 0, 1) := by decide +kernel
theorem dX11_wall_1 : decode cX11_wall 1 = .ok (.iload_n 1, 1) := by decide +kernel
theorem dX11_wall_2 : decode cX11_wall 2 = .ok (.invokevirtual 532, 3) := by decide +kernel
theorem dX11_wall_5 : decode cX11_wall 5 = .ok (.ifCond .eq 31, 3) := by decide +kernel
theorem dX11_wall_8 : decode cX11_wall 8 = .ok (.iload_n 2, 1) := by decide +kernel
theorem dX11_wall_9 : decode cX11_wall 9 = .ok (.ifCond .eq 14, 3) := by decide +kernel
theorem dX11_wall_12 : decode cX11_wall 12 = .ok (.aload_n 0, 1) := by decide +kernel
theorem dX11_wall_13 : decode cX11_wall 13 = .ok (.iload_n 1, 1) := by decide +kernel
theorem dX11_wall_14 : decode cX11_wall 14 = .ok (.invokevirtual 559, 3) := by decide +kernel
theorem dX11_wall_17 : decode cX11_wall 17 = .ok (.ifCond .eq 19, 3) := by decide +kernel
theorem dX11_wall_20 : decode cX11_wall 20 = .ok (.goto 12, 3) := by decide +kernel
theorem dX11_wall_23 : decode cX11_wall 23 = .ok (.aload_n 0, 1) := by decide +kernel
theorem dX11_wall_24 : decode cX11_wall 24 = .ok (.iconst 0, 1) := by decide +kernel
theorem dX11_wall_25 : decode cX11_wall 25 = .ok (.iload_n 1, 1) := by decide +kernel
theorem dX11_wall_26 : decode cX11_wall 26 = .ok (.invokevirtual 451, 3) := by decide +kernel
theorem dX11_wall_29 : decode cX11_wall 29 = .ok (.ifCond .eq 7, 3) := by decide +kernel
theorem dX11_wall_32 : decode cX11_wall 32 = .ok (.iconst 1, 1) := by decide +kernel
theorem dX11_wall_33 : decode cX11_wall 33 = .ok (.goto 4, 3) := by decide +kernel
theorem dX11_wall_36 : decode cX11_wall 36 = .ok (.iconst 0, 1) := by decide +kernel
theorem dX11_wall_37 : decode cX11_wall 37 = .ok (.istore_n 3, 1) := by decide +kernel
theorem dX11_wall_38 : decode cX11_wall 38 = .ok (.iload_n 3, 1) := by decide +kernel
theorem dX11_wall_39 : decode cX11_wall 39 = .ok (.ifCond .ne 17, 3) := by decide +kernel
theorem dX11_wall_42 : decode cX11_wall 42 = .ok (.aload_n 0, 1) := by decide +kernel
theorem dX11_wall_43 : decode cX11_wall 43 = .ok (.iconst 2, 1) := by decide +kernel
theorem dX11_wall_44 : decode cX11_wall 44 = .ok (.invokevirtual 248, 3) := by decide +kernel
theorem dX11_wall_47 : decode cX11_wall 47 = .ok (.ifCond .lt 7, 3) := by decide +kernel
theorem dX11_wall_50 : decode cX11_wall 50 = .ok (.iconst 1, 1) := by decide +kernel
theorem dX11_wall_51 : decode cX11_wall 51 = .ok (.goto 4, 3) := by decide +kernel
theorem dX11_wall_54 : decode cX11_wall 54 = .ok (.iconst 0, 1) := by decide +kernel
theorem dX11_wall_55 : decode cX11_wall 55 = .ok (.ireturn, 1) := by decide +kernel
theorem dX11_wall_56 : decode cX11_wall 56 = .ok (.aload_n 0, 1) := by decide +kernel
theorem dX11_wall_57 : decode cX11_wall 57 = .ok (.invokevirtual 562, 3) := by decide +kernel
theorem dX11_wall_60 : decode cX11_wall 60 = .ok (.aload_n 0, 1) := by decide +kernel
theorem dX11_wall_61 : decode cX11_wall 61 = .ok (.getfield 167, 3) := by decide +kernel
theorem dX11_wall_64 : decode cX11_wall 64 = .ok (.iload_n 1, 1) := by decide +kernel
theorem dX11_wall_65 : decode cX11_wall 65 = .ok (.iload_n 2, 1) := by decide +kernel
theorem dX11_wall_66 : decode cX11_wall 66 = .ok (.ifCond .eq 7, 3) := by decide +kernel
theorem dX11_wall_69 : decode cX11_wall 69 = .ok (.iconst 1, 1) := by decide +kernel
theorem dX11_wall_70 : decode cX11_wall 70 = .ok (.goto 4, 3) := by decide +kernel
theorem dX11_wall_73 : decode cX11_wall 73 = .ok (.iconst 0, 1) := by decide +kernel
theorem dX11_wall_74 : decode cX11_wall 74 = .ok (.iastore, 1) := by decide +kernel
theorem dX11_wall_75 : decode cX11_wall 75 = .ok (.iconst 1, 1) := by decide +kernel
theorem dX11_wall_76 : decode cX11_wall 76 = .ok (.ireturn, 1) := by decide +kernel
set_option maxRecDepth 100000 in
set_option maxHeartbeats 4000000 in
theorem X11_wall_J74_ok {g : Gm} {w : Wd} (C : Cx g w RX11 cX11_wall 4 (some .boolean)) {lv : Nat} (hlv : 3 < lv) {N : Nat} {s0 : Nat} {s1 : Int} {s2 : Int} {m : Mem} {out : (Int × Mem)} (h : X11_wall_J74 N s0 s1 s2 m = some out) : Jd g w 4 (rmL lv 0 0) (Qm g w (some (vI out.1)) out.2) 74 [none, none, none, none] [vI s2, vI s1, vR s0] 312 m 0 0 := by
  unfold X11_wall_J74 at h
  refine j_iast C dX11_wall_74 rfl h (fun m4 h => ?_)
  refine j_iconst C dX11_wall_75 rfl ?_
  obtain ⟨r5, er5, h⟩ := bind_some h
  have e := Option.some.inj h
  subst e
  exact j_rz C dX11_wall_76 rfl (retZ_some er5) rfl
set_option maxRecDepth 100000 in
set_option maxHeartbeats 4000000 in
theorem X11_wall_J37_ok {g : Gm} {w : Wd} (C : Cx g w RX11 cX11_wall 4 (some .boolean)) {lv : Nat} (hlv : 3 < lv) {N : Nat} {l0 : Nat} {l1 : Int} {l2 : Int} {s0 : Int} {m : Mem} {out : (Int × Mem)} (h : X11_wall_J37 N l0 l1 l2 s0 m = some out) : Jd g w 4 (rmL lv 0 0) (Qm g w (some (vI out.1)) out.2) 37 [some (vR l0), some (vI l1), some (vI l2), none] [vI s0] 312 m 0 0 := by
  unfold X11_wall_J37 at h
  refine j_istore_n (ls' := [some (vR _), some (vI _), some (vI _), some (vI _)]) C dX11_wall_37 (by decide) rfl ?_
  refine j_iload_n C dX11_wall_38 rfl ?_
  refine j_if_ne C 56 dX11_wall_39 rfl h (fun c11 h => ?_) (fun c11 h => ?_)
  · refine j_aload_n C dX11_wall_56 rfl ?_
    obtain ⟨p2, ep2, h⟩ := bind_some h
    have qp2 := X11_keeps_ct ep2
    refine j_cVV C dX11_wall_57 vl_X11_562 CF11 rfl qp2.1 qp2.2 (by omega) rfl rfl (Nat.le_of_ble_eq_true rfl) ?_
    refine j_aload_n C dX11_wall_60 rfl ?_
    refine j_getR C dX11_wall_61 CF11 (by decide) fl_X11_167 rfl rfl h (fun t3 h => ?_)
    refine j_iload_n C dX11_wall_64 rfl ?_
    refine j_iload_n C dX11_wall_65 rfl ?_
    refine j_if_eq C 73 dX11_wall_66 rfl h (fun c6 h => ?_) (fun c6 h => ?_)
    · refine j_iconst C dX11_wall_73 rfl ?_
      refine j_mask [false, false, false, false] (ls' := [none, none, none, none]) rfl ?_
      exact X11_wall_J74_ok C hlv h
    · refine j_iconst C dX11_wall_69 rfl ?_
      refine j_goto C 74 dX11_wall_70 rfl ?_
      refine j_mask [false, false, false, false] (ls' := [none, none, none, none]) rfl ?_
      exact X11_wall_J74_ok C hlv h
  · refine j_aload_n C dX11_wall_42 rfl ?_
    refine j_iconst C dX11_wall_43 rfl ?_
    obtain ⟨p7, ep7, h⟩ := bind_some h
    have qp7 := X11_refuses_ct ep7
    refine j_cVI C dX11_wall_44 vl_X11_248 CF11 rfl qp7.1 qp7.2 (by omega) rfl rfl (Nat.le_of_ble_eq_true rfl) ?_
    refine j_if_lt C 54 dX11_wall_47 rfl h (fun c10 h => ?_) (fun c10 h => ?_)
    · refine j_iconst C dX11_wall_54 rfl ?_
      obtain ⟨r8, er8, h⟩ := bind_some h
      have e := Option.some.inj h
      subst e
      exact j_rz C dX11_wall_55 rfl (retZ_some er8) rfl
    · refine j_iconst C dX11_wall_50 rfl ?_
      refine j_goto C 55 dX11_wall_51 rfl ?_
      obtain ⟨r9, er9, h⟩ := bind_some h
      have e := Option.some.inj h
      subst e
      exact j_rz C dX11_wall_55 rfl (retZ_some er9) rfl
set_option maxRecDepth 100000 in
set_option maxHeartbeats 4000000 in
theorem X11_wall_J36_ok {g : Gm} {w : Wd} (C : Cx g w RX11 cX11_wall 4 (some .boolean)) {lv : Nat} (hlv : 3 < lv) {N : Nat} {l0 : Nat} {l1 : Int} {l2 : Int} {m : Mem} {out : (Int × Mem)} (h : X11_wall_J36 N l0 l1 l2 m = some out) : Jd g w 4 (rmL lv 0 0) (Qm g w (some (vI out.1)) out.2) 36 [some (vR l0), some (vI l1), some (vI l2), none] [] 312 m 0 0 := by
  unfold X11_wall_J36 at h
  refine j_iconst C dX11_wall_36 rfl ?_
  exact X11_wall_J37_ok C hlv h
set_option maxRecDepth 100000 in
set_option maxHeartbeats 4000000 in
theorem X11_wall_J32_ok {g : Gm} {w : Wd} (C : Cx g w RX11 cX11_wall 4 (some .boolean)) {lv : Nat} (hlv : 3 < lv) {N : Nat} {l0 : Nat} {l1 : Int} {l2 : Int} {m : Mem} {out : (Int × Mem)} (h : X11_wall_J32 N l0 l1 l2 m = some out) : Jd g w 4 (rmL lv 0 0) (Qm g w (some (vI out.1)) out.2) 32 [some (vR l0), some (vI l1), some (vI l2), none] [] 312 m 0 0 := by
  unfold X11_wall_J32 at h
  refine j_iconst C dX11_wall_32 rfl ?_
  refine j_goto C 37 dX11_wall_33 rfl ?_
  exact X11_wall_J37_ok C hlv h
set_option maxRecDepth 100000 in
set_option maxHeartbeats 4000000 in
theorem X11_wall_ct {N : Nat} {l0 : Nat} {l1 : Int} {l2 : Int} {m : Mem} {out : (Int × Mem)} (h : X11_wall N l0 l1 l2 m = some out) : shK l0 = 11 + 10 ∧ CT yX11_wall cX11_wall 4 (some .boolean) 4 0 0 [vR l0, vI l1, vI l2] 312 m (some (vI out.1)) 312 out.2 := by
  unfold X11_wall at h
  obtain ⟨hK, h⟩ := ite_some h
  have hlv : 3 < 4 := by decide
  refine ⟨hK, CT.of (by decide +kernel) rfl (Nat.le_of_ble_eq_true rfl) (ls := [some (vR l0), some (vI l1), some (vI l2), none]) rfl fun g w C _ => ?_⟩
  refine j_aload_n C dX11_wall_0 rfl ?_
  refine j_iload_n C dX11_wall_1 rfl ?_
  obtain ⟨p1, ep1, h⟩ := bind_some h
  have qp1 := X11_isCell_ct ep1
  refine j_cVI C dX11_wall_2 vl_X11_532 CF11 rfl qp1.1 qp1.2 (by omega) rfl rfl (Nat.le_of_ble_eq_true rfl) ?_
  refine j_if_eq C 36 dX11_wall_5 rfl h (fun c17 h => ?_) (fun c17 h => ?_)
  · exact X11_wall_J36_ok C hlv h
  · refine j_iload_n C dX11_wall_8 rfl ?_
    refine j_if_eq C 23 dX11_wall_9 rfl h (fun c16 h => ?_) (fun c16 h => ?_)
    · refine j_aload_n C dX11_wall_23 rfl ?_
      refine j_iconst C dX11_wall_24 rfl ?_
      refine j_iload_n C dX11_wall_25 rfl ?_
      obtain ⟨p12, ep12, h⟩ := bind_some h
      have qp12 := X11_isWall_ct ep12
      refine j_cVI C dX11_wall_26 vl_X11_451 CF11 rfl qp12.1 qp12.2 (by omega) rfl rfl (Nat.le_of_ble_eq_true rfl) ?_
      refine j_if_eq C 36 dX11_wall_29 rfl h (fun c13 h => ?_) (fun c13 h => ?_)
      · exact X11_wall_J36_ok C hlv h
      · exact X11_wall_J32_ok C hlv h
    · refine j_aload_n C dX11_wall_12 rfl ?_
      refine j_iload_n C dX11_wall_13 rfl ?_
      obtain ⟨p14, ep14, h⟩ := bind_some h
      have qp14 := X11_isFree_ct ep14
      refine j_cVI C dX11_wall_14 vl_X11_559 CF11 rfl qp14.1 qp14.2 (by omega) rfl rfl (Nat.le_of_ble_eq_true rfl) ?_
      refine j_if_eq C 36 dX11_wall_17 rfl h (fun c15 h => ?_) (fun c15 h => ?_)
      · exact X11_wall_J36_ok C hlv h
      · refine j_goto C 32 dX11_wall_20 rfl ?_
        exact X11_wall_J32_ok C hlv h
theorem dX11_whole_0 : decode cX11_whole 0 = .ok (.aload_n 0, 1) := by decide +kernel
theorem dX11_whole_1 : decode cX11_whole 1 = .ok (.invokevirtual 553, 3) := by decide +kernel
theorem dX11_whole_4 : decode cX11_whole 4 = .ok (.ifCond .eq 12, 3) := by decide +kernel
theorem dX11_whole_7 : decode cX11_whole 7 = .ok (.iload_n 1, 1) := by decide +kernel
theorem dX11_whole_8 : decode cX11_whole 8 = .ok (.iconst 0, 1) := by decide +kernel
theorem dX11_whole_9 : decode cX11_whole 9 = .ok (.iconst 4, 1) := by decide +kernel
theorem dX11_whole_10 : decode cX11_whole 10 = .ok (.invokestatic 334, 3) := by decide +kernel
theorem dX11_whole_13 : decode cX11_whole 13 = .ok (.ifCond .ne 5, 3) := by decide +kernel
theorem dX11_whole_16 : decode cX11_whole 16 = .ok (.iconst (-1), 1) := by decide +kernel
theorem dX11_whole_17 : decode cX11_whole 17 = .ok (.ireturn, 1) := by decide +kernel
theorem dX11_whole_18 : decode cX11_whole 18 = .ok (.aload_n 0, 1) := by decide +kernel
theorem dX11_whole_19 : decode cX11_whole 19 = .ok (.iconst 0, 1) := by decide +kernel
theorem dX11_whole_20 : decode cX11_whole 20 = .ok (.invokevirtual 544, 3) := by decide +kernel
theorem dX11_whole_23 : decode cX11_whole 23 = .ok (.iconst 0, 1) := by decide +kernel
theorem dX11_whole_24 : decode cX11_whole 24 = .ok (.istore_n 2, 1) := by decide +kernel
theorem dX11_whole_25 : decode cX11_whole 25 = .ok (.iconst 0, 1) := by decide +kernel
theorem dX11_whole_26 : decode cX11_whole 26 = .ok (.istore_n 3, 1) := by decide +kernel
theorem dX11_whole_27 : decode cX11_whole 27 = .ok (.iconst 0, 1) := by decide +kernel
theorem dX11_whole_28 : decode cX11_whole 28 = .ok (.istore 4, 2) := by decide +kernel
theorem dX11_whole_30 : decode cX11_whole 30 = .ok (.iconst (-1), 1) := by decide +kernel
theorem dX11_whole_31 : decode cX11_whole 31 = .ok (.istore 5, 2) := by decide +kernel
theorem dX11_whole_33 : decode cX11_whole 33 = .ok (.iconst (-1), 1) := by decide +kernel
theorem dX11_whole_34 : decode cX11_whole 34 = .ok (.istore 6, 2) := by decide +kernel
theorem dX11_whole_36 : decode cX11_whole 36 = .ok (.iconst 1, 1) := by decide +kernel
theorem dX11_whole_37 : decode cX11_whole 37 = .ok (.istore 7, 2) := by decide +kernel
theorem dX11_whole_39 : decode cX11_whole 39 = .ok (.iload 7, 2) := by decide +kernel
theorem dX11_whole_41 : decode cX11_whole 41 = .ok (.bipush 12, 2) := by decide +kernel
theorem dX11_whole_43 : decode cX11_whole 43 = .ok (.if_icmp .gt 86, 3) := by decide +kernel
theorem dX11_whole_46 : decode cX11_whole 46 = .ok (.iload_n 2, 1) := by decide +kernel
theorem dX11_whole_47 : decode cX11_whole 47 = .ok (.aload_n 0, 1) := by decide +kernel
theorem dX11_whole_48 : decode cX11_whole 48 = .ok (.iload 7, 2) := by decide +kernel
theorem dX11_whole_50 : decode cX11_whole 50 = .ok (.invokevirtual 556, 3) := by decide +kernel
theorem dX11_whole_53 : decode cX11_whole 53 = .ok (.iadd, 1) := by decide +kernel
theorem dX11_whole_54 : decode cX11_whole 54 = .ok (.istore_n 2, 1) := by decide +kernel
theorem dX11_whole_55 : decode cX11_whole 55 = .ok (.aload_n 0, 1) := by decide +kernel
theorem dX11_whole_56 : decode cX11_whole 56 = .ok (.iload 7, 2) := by decide +kernel
theorem dX11_whole_58 : decode cX11_whole 58 = .ok (.invokevirtual 556, 3) := by decide +kernel
theorem dX11_whole_61 : decode cX11_whole 61 = .ok (.iload 5, 2) := by decide +kernel
theorem dX11_whole_63 : decode cX11_whole 63 = .ok (.iconst (-1), 1) := by decide +kernel
theorem dX11_whole_64 : decode cX11_whole 64 = .ok (.if_icmp .ne 7, 3) := by decide +kernel
theorem dX11_whole_67 : decode cX11_whole 67 = .ok (.iconst 0, 1) := by decide +kernel
theorem dX11_whole_68 : decode cX11_whole 68 = .ok (.goto 9, 3) := by decide +kernel
theorem dX11_whole_71 : decode cX11_whole 71 = .ok (.aload_n 0, 1) := by decide +kernel
theorem dX11_whole_72 : decode cX11_whole 72 = .ok (.iload 5, 2) := by decide +kernel
theorem dX11_whole_74 : decode cX11_whole 74 = .ok (.invokevirtual 556, 3) := by decide +kernel
theorem dX11_whole_77 : decode cX11_whole 77 = .ok (.if_icmp .le 7, 3) := by decide +kernel
theorem dX11_whole_80 : decode cX11_whole 80 = .ok (.iload 7, 2) := by decide +kernel
theorem dX11_whole_82 : decode cX11_whole 82 = .ok (.istore 5, 2) := by decide +kernel
theorem dX11_whole_84 : decode cX11_whole 84 = .ok (.iconst 0, 1) := by decide +kernel
theorem dX11_whole_85 : decode cX11_whole 85 = .ok (.istore 8, 2) := by decide +kernel
theorem dX11_whole_87 : decode cX11_whole 87 = .ok (.iload 8, 2) := by decide +kernel
theorem dX11_whole_89 : decode cX11_whole 89 = .ok (.aload_n 0, 1) := by decide +kernel
theorem dX11_whole_90 : decode cX11_whole 90 = .ok (.getfield 81, 3) := by decide +kernel
theorem dX11_whole_93 : decode cX11_whole 93 = .ok (.aload_n 0, 1) := by decide +kernel
theorem dX11_whole_94 : decode cX11_whole 94 = .ok (.getfield 51, 3) := by decide +kernel
theorem dX11_whole_97 : decode cX11_whole 97 = .ok (.iaload, 1) := by decide +kernel
theorem dX11_whole_98 : decode cX11_whole 98 = .ok (.if_icmp .ge 25, 3) := by decide +kernel
theorem dX11_whole_101 : decode cX11_whole 101 = .ok (.iload_n 3, 1) := by decide +kernel
theorem dX11_whole_102 : decode cX11_whole 102 = .ok (.aload_n 0, 1) := by decide +kernel
theorem dX11_whole_103 : decode cX11_whole 103 = .ok (.getfield 209, 3) := by decide +kernel
theorem dX11_whole_106 : decode cX11_whole 106 = .ok (.bipush 10, 2) := by decide +kernel
theorem dX11_whole_108 : decode cX11_whole 108 = .ok (.iload 7, 2) := by decide +kernel
theorem dX11_whole_110 : decode cX11_whole 110 = .ok (.imul, 1) := by decide +kernel
theorem dX11_whole_111 : decode cX11_whole 111 = .ok (.iload 8, 2) := by decide +kernel
theorem dX11_whole_113 : decode cX11_whole 113 = .ok (.iadd, 1) := by decide +kernel
theorem dX11_whole_114 : decode cX11_whole 114 = .ok (.iaload, 1) := by decide +kernel
theorem dX11_whole_115 : decode cX11_whole 115 = .ok (.iadd, 1) := by decide +kernel
theorem dX11_whole_116 : decode cX11_whole 116 = .ok (.istore_n 3, 1) := by decide +kernel
theorem dX11_whole_117 : decode cX11_whole 117 = .ok (.iinc 8 1, 3) := by decide +kernel
theorem dX11_whole_120 : decode cX11_whole 120 = .ok (.goto (-33), 3) := by decide +kernel
theorem dX11_whole_123 : decode cX11_whole 123 = .ok (.iinc 7 1, 3) := by decide +kernel
theorem dX11_whole_126 : decode cX11_whole 126 = .ok (.goto (-87), 3) := by decide +kernel
theorem dX11_whole_129 : decode cX11_whole 129 = .ok (.iconst 0, 1) := by decide +kernel
theorem dX11_whole_130 : decode cX11_whole 130 = .ok (.istore 7, 2) := by decide +kernel
theorem dX11_whole_132 : decode cX11_whole 132 = .ok (.iload 7, 2) := by decide +kernel
theorem dX11_whole_134 : decode cX11_whole 134 = .ok (.aload_n 0, 1) := by decide +kernel
theorem dX11_whole_135 : decode cX11_whole 135 = .ok (.getfield 81, 3) := by decide +kernel
theorem dX11_whole_138 : decode cX11_whole 138 = .ok (.aload_n 0, 1) := by decide +kernel
theorem dX11_whole_139 : decode cX11_whole 139 = .ok (.getfield 51, 3) := by decide +kernel
theorem dX11_whole_142 : decode cX11_whole 142 = .ok (.iaload, 1) := by decide +kernel
theorem dX11_whole_143 : decode cX11_whole 143 = .ok (.if_icmp .ge 49, 3) := by decide +kernel
theorem dX11_whole_146 : decode cX11_whole 146 = .ok (.iload 4, 2) := by decide +kernel
theorem dX11_whole_148 : decode cX11_whole 148 = .ok (.aload_n 0, 1) := by decide +kernel
theorem dX11_whole_149 : decode cX11_whole 149 = .ok (.iload 7, 2) := by decide +kernel
theorem dX11_whole_151 : decode cX11_whole 151 = .ok (.invokevirtual 518, 3) := by decide +kernel
theorem dX11_whole_154 : decode cX11_whole 154 = .ok (.iadd, 1) := by decide +kernel
theorem dX11_whole_155 : decode cX11_whole 155 = .ok (.istore 4, 2) := by decide +kernel
theorem dX11_whole_157 : decode cX11_whole 157 = .ok (.aload_n 0, 1) := by decide +kernel
theorem dX11_whole_158 : decode cX11_whole 158 = .ok (.iload 7, 2) := by decide +kernel
theorem dX11_whole_160 : decode cX11_whole 160 = .ok (.invokevirtual 518, 3) := by decide +kernel
theorem dX11_whole_163 : decode cX11_whole 163 = .ok (.iload 6, 2) := by decide +kernel
theorem dX11_whole_165 : decode cX11_whole 165 = .ok (.iconst (-1), 1) := by decide +kernel
theorem dX11_whole_166 : decode cX11_whole 166 = .ok (.if_icmp .ne 7, 3) := by decide +kernel
theorem dX11_whole_169 : decode cX11_whole 169 = .ok (.iconst 0, 1) := by decide +kernel
theorem dX11_whole_170 : decode cX11_whole 170 = .ok (.goto 9, 3) := by decide +kernel
theorem dX11_whole_173 : decode cX11_whole 173 = .ok (.aload_n 0, 1) := by decide +kernel
theorem dX11_whole_174 : decode cX11_whole 174 = .ok (.iload 6, 2) := by decide +kernel
theorem dX11_whole_176 : decode cX11_whole 176 = .ok (.invokevirtual 518, 3) := by decide +kernel
theorem dX11_whole_179 : decode cX11_whole 179 = .ok (.if_icmp .le 7, 3) := by decide +kernel
theorem dX11_whole_182 : decode cX11_whole 182 = .ok (.iload 7, 2) := by decide +kernel
theorem dX11_whole_184 : decode cX11_whole 184 = .ok (.istore 6, 2) := by decide +kernel
theorem dX11_whole_186 : decode cX11_whole 186 = .ok (.iinc 7 1, 3) := by decide +kernel
theorem dX11_whole_189 : decode cX11_whole 189 = .ok (.goto (-57), 3) := by decide +kernel
theorem dX11_whole_192 : decode cX11_whole 192 = .ok (.iload_n 1, 1) := by decide +kernel
theorem dX11_whole_193 : decode cX11_whole 193 = .ok (.ifCond .ne 7, 3) := by decide +kernel
theorem dX11_whole_196 : decode cX11_whole 196 = .ok (.iload_n 2, 1) := by decide +kernel
theorem dX11_whole_197 : decode cX11_whole 197 = .ok (.goto 34, 3) := by decide +kernel
theorem dX11_whole_200 : decode cX11_whole 200 = .ok (.iload_n 1, 1) := by decide +kernel
theorem dX11_whole_201 : decode cX11_whole 201 = .ok (.iconst 1, 1) := by decide +kernel
theorem dX11_whole_202 : decode cX11_whole 202 = .ok (.if_icmp .ne 7, 3) := by decide +kernel
theorem dX11_whole_205 : decode cX11_whole 205 = .ok (.iload_n 3, 1) := by decide +kernel
theorem dX11_whole_206 : decode cX11_whole 206 = .ok (.goto 25, 3) := by decide +kernel
theorem dX11_whole_209 : decode cX11_whole 209 = .ok (.iload_n 1, 1) := by decide +kernel
theorem dX11_whole_210 : decode cX11_whole 210 = .ok (.iconst 2, 1) := by decide +kernel
theorem dX11_whole_211 : decode cX11_whole 211 = .ok (.if_icmp .ne 8, 3) := by decide +kernel
theorem dX11_whole_214 : decode cX11_whole 214 = .ok (.iload 4, 2) := by decide +kernel
theorem dX11_whole_216 : decode cX11_whole 216 = .ok (.goto 15, 3) := by decide +kernel
theorem dX11_whole_219 : decode cX11_whole 219 = .ok (.iload_n 1, 1) := by decide +kernel
theorem dX11_whole_220 : decode cX11_whole 220 = .ok (.iconst 3, 1) := by decide +kernel
theorem dX11_whole_221 : decode cX11_whole 221 = .ok (.if_icmp .ne 8, 3) := by decide +kernel
theorem dX11_whole_224 : decode cX11_whole 224 = .ok (.iload 5, 2) := by decide +kernel
theorem dX11_whole_226 : decode cX11_whole 226 = .ok (.goto 5, 3) := by decide +kernel
theorem dX11_whole_229 : decode cX11_whole 229 = .ok (.iload 6, 2) := by decide +kernel
theorem dX11_whole_231 : decode cX11_whole 231 = .ok (.ireturn, 1) := by decide +kernel
set_option maxRecDepth 100000 in
set_option maxHeartbeats 4000000 in
theorem X11_whole_L87_bok {g : Gm} {w : Wd} (C : Cx g w RX11 cX11_whole 9 (some .int)) {lv : Nat} (hlv : 8 < lv) {N : Nat} {k123 : Nat → Int → Int → Int → Int → Int → Int → Int → Mem → Option (Int × Mem)} {r87 : Nat → Int → Int → Int → Int → Int → Int → Int → Int → Mem → Option (Int × Mem)} {l0 : Nat} {l1 : Int} {l2 : Int} {l3 : Int} {l4 : Int} {l5 : Int} {l6 : Int} {l7 : Int} {l8 : Int} {m : Mem} {out : (Int × Mem)} (hk123 : ∀ l0 l1 l2 l3 l4 l5 l6 l7 m, k123 l0 l1 l2 l3 l4 l5 l6 l7 m = some out → Jd g w 9 (rmL lv 0 0) (Qm g w (some (vI out.1)) out.2) 123 [some (vR l0), some (vI l1), some (vI l2), some (vI l3), some (vI l4), some (vI l5), some (vI l6), some (vI l7), none] [] 312 m 0 0) (hr87 : ∀ l0 l1 l2 l3 l4 l5 l6 l7 l8 m, r87 l0 l1 l2 l3 l4 l5 l6 l7 l8 m = some out → Jd g w 9 (rmL lv 0 0) (Qm g w (some (vI out.1)) out.2) 87 [some (vR l0), some (vI l1), some (vI l2), some (vI l3), some (vI l4), some (vI l5), some (vI l6), some (vI l7), some (vI l8)] [] 312 m 0 0) (h : X11_whole_L87_b N k123 r87 l0 l1 l2 l3 l4 l5 l6 l7 l8 m = some out) : Jd g w 9 (rmL lv 0 0) (Qm g w (some (vI out.1)) out.2) 87 [some (vR l0), some (vI l1), some (vI l2), some (vI l3), some (vI l4), some (vI l5), some (vI l6), some (vI l7), some (vI l8)] [] 312 m 0 0 := by
  unfold X11_whole_L87_b at h
  refine j_iload C dX11_whole_87 rfl ?_
  refine j_aload_n C dX11_whole_89 rfl ?_
  refine j_getR C dX11_whole_90 CF11 (by decide) fl_X11_81 rfl rfl h (fun t7 h => ?_)
  refine j_aload_n C dX11_whole_93 rfl ?_
  refine j_getI C dX11_whole_94 CF11 (by decide) fl_X11_51 rfl rfl h (fun t8 h => ?_)
  refine j_iald C dX11_whole_97 rfl h (fun t9 h => ?_)
  refine j_icmp_ge C 123 dX11_whole_98 rfl h (fun c12 h => ?_) (fun c12 h => ?_)
  · refine j_mask [true, true, true, true, true, true, true, true, false] (ls' := [some (vR _), some (vI _), some (vI _), some (vI _), some (vI _), some (vI _), some (vI _), some (vI _), none]) rfl ?_
    exact hk123 _ _ _ _ _ _ _ _ _ h
  · refine j_iload_n C dX11_whole_101 rfl ?_
    refine j_aload_n C dX11_whole_102 rfl ?_
    refine j_getR C dX11_whole_103 CF11 (by decide) fl_X11_209 rfl rfl h (fun t10 h => ?_)
    refine j_bipush C dX11_whole_106 rfl ?_
    refine j_iload C dX11_whole_108 rfl ?_
    refine j_imul C dX11_whole_110 ?_
    refine j_iload C dX11_whole_111 rfl ?_
    refine j_iadd C dX11_whole_113 ?_
    refine j_iald C dX11_whole_114 rfl h (fun t11 h => ?_)
    refine j_iadd C dX11_whole_115 ?_
    refine j_istore_n (ls' := [some (vR _), some (vI _), some (vI _), some (vI _), some (vI _), some (vI _), some (vI _), some (vI _), some (vI _)]) C dX11_whole_116 (by decide) rfl ?_
    refine j_iinc (ls' := [some (vR _), some (vI _), some (vI _), some (vI _), some (vI _), some (vI _), some (vI _), some (vI _), some (vI _)]) C dX11_whole_117 rfl (by decide) rfl ?_
    refine j_goto C 87 dX11_whole_120 rfl ?_
    exact hr87 _ _ _ _ _ _ _ _ _ _ h
set_option maxRecDepth 100000 in
set_option maxHeartbeats 4000000 in
theorem X11_whole_L87_ok {g : Gm} {w : Wd} (C : Cx g w RX11 cX11_whole 9 (some .int)) {lv : Nat} (hlv : 8 < lv) {N : Nat} {k123 : Nat → Int → Int → Int → Int → Int → Int → Int → Mem → Option (Int × Mem)} {out : (Int × Mem)} (hk123 : ∀ l0 l1 l2 l3 l4 l5 l6 l7 m, k123 l0 l1 l2 l3 l4 l5 l6 l7 m = some out → Jd g w 9 (rmL lv 0 0) (Qm g w (some (vI out.1)) out.2) 123 [some (vR l0), some (vI l1), some (vI l2), some (vI l3), some (vI l4), some (vI l5), some (vI l6), some (vI l7), none] [] 312 m 0 0) (f : Nat) : ∀ {l0 : Nat} {l1 : Int} {l2 : Int} {l3 : Int} {l4 : Int} {l5 : Int} {l6 : Int} {l7 : Int} {l8 : Int} {m : Mem}, X11_whole_L87 N k123 f l0 l1 l2 l3 l4 l5 l6 l7 l8 m = some out → Jd g w 9 (rmL lv 0 0) (Qm g w (some (vI out.1)) out.2) 87 [some (vR l0), some (vI l1), some (vI l2), some (vI l3), some (vI l4), some (vI l5), some (vI l6), some (vI l7), some (vI l8)] [] 312 m 0 0 := by
  induction f with
  | zero => intro l0 l1 l2 l3 l4 l5 l6 l7 l8 m h; exact none_ne (α := (Int × Mem)) h
  | succ f ih => intro l0 l1 l2 l3 l4 l5 l6 l7 l8 m h; exact X11_whole_L87_bok C hlv hk123 (fun l0 l1 l2 l3 l4 l5 l6 l7 l8 m h => ih h) h
set_option maxRecDepth 100000 in
set_option maxHeartbeats 4000000 in
theorem X11_whole_J84_ok {g : Gm} {w : Wd} (C : Cx g w RX11 cX11_whole 9 (some .int)) {lv : Nat} (hlv : 8 < lv) {N : Nat} {r39 : Nat → Int → Int → Int → Int → Int → Int → Int → Mem → Option (Int × Mem) } {l0 : Nat} {l1 : Int} {l2 : Int} {l3 : Int} {l4 : Int} {l5 : Int} {l6 : Int} {l7 : Int} {m : Mem} {out : (Int × Mem)} (hr39 : ∀ l0 l1 l2 l3 l4 l5 l6 l7 m, r39 l0 l1 l2 l3 l4 l5 l6 l7 m = some out → Jd g w 9 (rmL lv 0 0) (Qm g w (some (vI out.1)) out.2) 39 [some (vR l0), some (vI l1), some (vI l2), some (vI l3), some (vI l4), some (vI l5), some (vI l6), some (vI l7), none] [] 312 m 0 0) (h : X11_whole_J84 N r39 l0 l1 l2 l3 l4 l5 l6 l7 m = some out) : Jd g w 9 (rmL lv 0 0) (Qm g w (some (vI out.1)) out.2) 84 [some (vR l0), some (vI l1), some (vI l2), some (vI l3), some (vI l4), some (vI l5), some (vI l6), some (vI l7), none] [] 312 m 0 0 := by
  unfold X11_whole_J84 at h
  refine j_iconst C dX11_whole_84 rfl ?_
  refine j_istore (ls' := [some (vR _), some (vI _), some (vI _), some (vI _), some (vI _), some (vI _), some (vI _), some (vI _), some (vI _)]) C dX11_whole_85 (by decide) rfl ?_
  refine X11_whole_L87_ok C hlv (fun z13 z14 z15 z16 z17 z18 z19 z20 m21 h => ?_) N h
  refine j_iinc (ls' := [some (vR _), some (vI _), some (vI _), some (vI _), some (vI _), some (vI _), some (vI _), some (vI _), none]) C dX11_whole_123 rfl (by decide) rfl ?_
  refine j_goto C 39 dX11_whole_126 rfl ?_
  exact hr39 _ _ _ _ _ _ _ _ _ h
set_option maxRecDepth 100000 in
set_option maxHeartbeats 4000000 in
theorem X11_whole_J77_ok {g : Gm} {w : Wd} (C : Cx g w RX11 cX11_whole 9 (some .int)) {lv : Nat} (hlv : 8 < lv) {N : Nat} {r39 : Nat → Int → Int → Int → Int → Int → Int → Int → Mem → Option (Int × Mem) } {l0 : Nat} {l1 : Int} {l2 : Int} {l3 : Int} {l4 : Int} {l5 : Int} {l6 : Int} {l7 : Int} {s0 : Int} {s1 : Int} {m : Mem} {out : (Int × Mem)} (hr39 : ∀ l0 l1 l2 l3 l4 l5 l6 l7 m, r39 l0 l1 l2 l3 l4 l5 l6 l7 m = some out → Jd g w 9 (rmL lv 0 0) (Qm g w (some (vI out.1)) out.2) 39 [some (vR l0), some (vI l1), some (vI l2), some (vI l3), some (vI l4), some (vI l5), some (vI l6), some (vI l7), none] [] 312 m 0 0) (h : X11_whole_J77 N r39 l0 l1 l2 l3 l4 l5 l6 l7 s0 s1 m = some out) : Jd g w 9 (rmL lv 0 0) (Qm g w (some (vI out.1)) out.2) 77 [some (vR l0), some (vI l1), some (vI l2), some (vI l3), some (vI l4), some (vI l5), some (vI l6), some (vI l7), none] [vI s1, vI s0] 312 m 0 0 := by
  unfold X11_whole_J77 at h
  refine j_icmp_le C 84 dX11_whole_77 rfl h (fun c22 h => ?_) (fun c22 h => ?_)
  · exact X11_whole_J84_ok C hlv hr39 h
  · refine j_iload C dX11_whole_80 rfl ?_
    refine j_istore (ls' := [some (vR _), some (vI _), some (vI _), some (vI _), some (vI _), some (vI _), some (vI _), some (vI _), none]) C dX11_whole_82 (by decide) rfl ?_
    exact X11_whole_J84_ok C hlv hr39 h
set_option maxRecDepth 100000 in
set_option maxHeartbeats 4000000 in
theorem X11_whole_L39_bok {g : Gm} {w : Wd} (C : Cx g w RX11 cX11_whole 9 (some .int)) {lv : Nat} (hlv : 8 < lv) {N : Nat} {k129 : Nat → Int → Int → Int → Int → Int → Int → Mem → Option (Int × Mem)} {r39 : Nat → Int → Int → Int → Int → Int → Int → Int → Mem → Option (Int × Mem)} {l0 : Nat} {l1 : Int} {l2 : Int} {l3 : Int} {l4 : Int} {l5 : Int} {l6 : Int} {l7 : Int} {m : Mem} {out : (Int × Mem)} (hk129 : ∀ l0 l1 l2 l3 l4 l5 l6 m, k129 l0 l1 l2 l3 l4 l5 l6 m = some out → Jd g w 9 (rmL lv 0 0) (Qm g w (some (vI out.1)) out.2) 129 [some (vR l0), some (vI l1), some (vI l2), some (vI l3), some (vI l4), some (vI l5), some (vI l6), none, none] [] 312 m 0 0) (hr39 : ∀ l0 l1 l2 l3 l4 l5 l6 l7 m, r39 l0 l1 l2 l3 l4 l5 l6 l7 m = some out → Jd g w 9 (rmL lv 0 0) (Qm g w (some (vI out.1)) out.2) 39 [some (vR l0), some (vI l1), some (vI l2), some (vI l3), some (vI l4), some (vI l5), some (vI l6), some (vI l7), none] [] 312 m 0 0) (h : X11_whole_L39_b N k129 r39 l0 l1 l2 l3 l4 l5 l6 l7 m = some out) : Jd g w 9 (rmL lv 0 0) (Qm g w (some (vI out.1)) out.2) 39 [some (vR l0), some (vI l1), some (vI l2), some (vI l3), some (vI l4), some (vI l5), some (vI l6), some (vI l7), none] [] 312 m 0 0 := by
  unfold X11_whole_L39_b at h
  refine j_iload C dX11_whole_39 rfl ?_
  refine j_bipush C dX11_whole_41 rfl ?_
  refine j_icmp_gt C 129 dX11_whole_43 rfl h (fun c24 h => ?_) (fun c24 h => ?_)
  · refine j_mask [true, true, true, true, true, true, true, false, false] (ls' := [some (vR _), some (vI _), some (vI _), some (vI _), some (vI _), some (vI _), some (vI _), none, none]) rfl ?_
    exact hk129 _ _ _ _ _ _ _ _ h
  · refine j_iload_n C dX11_whole_46 rfl ?_
    refine j_aload_n C dX11_whole_47 rfl ?_
    refine j_iload C dX11_whole_48 rfl ?_
    obtain ⟨p4, ep4, h⟩ := bind_some h
    have qp4 := X11_cameIn_ct ep4
    refine j_cVI C dX11_whole_50 vl_X11_556 CF11 rfl qp4.1 qp4.2 (by omega) rfl rfl (Nat.le_of_ble_eq_true rfl) ?_
    refine j_iadd C dX11_whole_53 ?_
    refine j_istore_n (ls' := [some (vR _), some (vI _), some (vI _), some (vI _), some (vI _), some (vI _), some (vI _), some (vI _), none]) C dX11_whole_54 (by decide) rfl ?_
    refine j_aload_n C dX11_whole_55 rfl ?_
    refine j_iload C dX11_whole_56 rfl ?_
    obtain ⟨p5, ep5, h⟩ := bind_some h
    have qp5 := X11_cameIn_ct ep5
    refine j_cVI C dX11_whole_58 vl_X11_556 CF11 rfl qp5.1 qp5.2 (by omega) rfl rfl (Nat.le_of_ble_eq_true rfl) ?_
    refine j_iload C dX11_whole_61 rfl ?_
    refine j_iconst C dX11_whole_63 rfl ?_
    refine j_icmp_ne C 71 dX11_whole_64 rfl h (fun c23 h => ?_) (fun c23 h => ?_)
    · refine j_aload_n C dX11_whole_71 rfl ?_
      refine j_iload C dX11_whole_72 rfl ?_
      obtain ⟨p6, ep6, h⟩ := bind_some h
      have qp6 := X11_cameIn_ct ep6
      refine j_cVI C dX11_whole_74 vl_X11_556 CF11 rfl qp6.1 qp6.2 (by omega) rfl rfl (Nat.le_of_ble_eq_true rfl) ?_
      exact X11_whole_J77_ok C hlv hr39 h
    · refine j_iconst C dX11_whole_67 rfl ?_
      refine j_goto C 77 dX11_whole_68 rfl ?_
      exact X11_whole_J77_ok C hlv hr39 h
set_option maxRecDepth 100000 in
set_option maxHeartbeats 4000000 in
theorem X11_whole_L39_ok {g : Gm} {w : Wd} (C : Cx g w RX11 cX11_whole 9 (some .int)) {lv : Nat} (hlv : 8 < lv) {N : Nat} {k129 : Nat → Int → Int → Int → Int → Int → Int → Mem → Option (Int × Mem)} {out : (Int × Mem)} (hk129 : ∀ l0 l1 l2 l3 l4 l5 l6 m, k129 l0 l1 l2 l3 l4 l5 l6 m = some out → Jd g w 9 (rmL lv 0 0) (Qm g w (some (vI out.1)) out.2) 129 [some (vR l0), some (vI l1), some (vI l2), some (vI l3), some (vI l4), some (vI l5), some (vI l6), none, none] [] 312 m 0 0) (f : Nat) : ∀ {l0 : Nat} {l1 : Int} {l2 : Int} {l3 : Int} {l4 : Int} {l5 : Int} {l6 : Int} {l7 : Int} {m : Mem}, X11_whole_L39 N k129 f l0 l1 l2 l3 l4 l5 l6 l7 m = some out → Jd g w 9 (rmL lv 0 0) (Qm g w (some (vI out.1)) out.2) 39 [some (vR l0), some (vI l1), some (vI l2), some (vI l3), some (vI l4), some (vI l5), some (vI l6), some (vI l7), none] [] 312 m 0 0 := by
  induction f with
  | zero => intro l0 l1 l2 l3 l4 l5 l6 l7 m h; exact none_ne (α := (Int × Mem)) h
  | succ f ih => intro l0 l1 l2 l3 l4 l5 l6 l7 m h; exact X11_whole_L39_bok C hlv hk129 (fun l0 l1 l2 l3 l4 l5 l6 l7 m h => ih h) h
set_option maxRecDepth 100000 in
set_option maxHeartbeats 4000000 in
theorem X11_whole_J186_ok {g : Gm} {w : Wd} (C : Cx g w RX11 cX11_whole 9 (some .int)) {lv : Nat} (hlv : 8 < lv) {N : Nat} {r132 : Nat → Int → Int → Int → Int → Int → Int → Int → Mem → Option (Int × Mem) } {l0 : Nat} {l1 : Int} {l2 : Int} {l3 : Int} {l4 : Int} {l5 : Int} {l6 : Int} {l7 : Int} {m : Mem} {out : (Int × Mem)} (hr132 : ∀ l0 l1 l2 l3 l4 l5 l6 l7 m, r132 l0 l1 l2 l3 l4 l5 l6 l7 m = some out → Jd g w 9 (rmL lv 0 0) (Qm g w (some (vI out.1)) out.2) 132 [some (vR l0), some (vI l1), some (vI l2), some (vI l3), some (vI l4), some (vI l5), some (vI l6), some (vI l7), none] [] 312 m 0 0) (h : X11_whole_J186 N r132 l0 l1 l2 l3 l4 l5 l6 l7 m = some out) : Jd g w 9 (rmL lv 0 0) (Qm g w (some (vI out.1)) out.2) 186 [some (vR l0), some (vI l1), some (vI l2), some (vI l3), some (vI l4), some (vI l5), some (vI l6), some (vI l7), none] [] 312 m 0 0 := by
  unfold X11_whole_J186 at h
  refine j_iinc (ls' := [some (vR _), some (vI _), some (vI _), some (vI _), some (vI _), some (vI _), some (vI _), some (vI _), none]) C dX11_whole_186 rfl (by decide) rfl ?_
  refine j_goto C 132 dX11_whole_189 rfl ?_
  exact hr132 _ _ _ _ _ _ _ _ _ h
set_option maxRecDepth 100000 in
set_option maxHeartbeats 4000000 in
theorem X11_whole_J179_ok {g : Gm} {w : Wd} (C : Cx g w RX11 cX11_whole 9 (some .int)) {lv : Nat} (hlv : 8 < lv) {N : Nat} {r132 : Nat → Int → Int → Int → Int → Int → Int → Int → Mem → Option (Int × Mem) } {l0 : Nat} {l1 : Int} {l2 : Int} {l3 : Int} {l4 : Int} {l5 : Int} {l6 : Int} {l7 : Int} {s0 : Int} {s1 : Int} {m : Mem} {out : (Int × Mem)} (hr132 : ∀ l0 l1 l2 l3 l4 l5 l6 l7 m, r132 l0 l1 l2 l3 l4 l5 l6 l7 m = some out → Jd g w 9 (rmL lv 0 0) (Qm g w (some (vI out.1)) out.2) 132 [some (vR l0), some (vI l1), some (vI l2), some (vI l3), some (vI l4), some (vI l5), some (vI l6), some (vI l7), none] [] 312 m 0 0) (h : X11_whole_J179 N r132 l0 l1 l2 l3 l4 l5 l6 l7 s0 s1 m = some out) : Jd g w 9 (rmL lv 0 0) (Qm g w (some (vI out.1)) out.2) 179 [some (vR l0), some (vI l1), some (vI l2), some (vI l3), some (vI l4), some (vI l5), some (vI l6), some (vI l7), none] [vI s1, vI s0] 312 m 0 0 := by
  unfold X11_whole_J179 at h
  refine j_icmp_le C 186 dX11_whole_179 rfl h (fun c39 h => ?_) (fun c39 h => ?_)
  · exact X11_whole_J186_ok C hlv hr132 h
  · refine j_iload C dX11_whole_182 rfl ?_
    refine j_istore (ls' := [some (vR _), some (vI _), some (vI _), some (vI _), some (vI _), some (vI _), some (vI _), some (vI _), none]) C dX11_whole_184 (by decide) rfl ?_
    exact X11_whole_J186_ok C hlv hr132 h
set_option maxRecDepth 100000 in
set_option maxHeartbeats 4000000 in
theorem X11_whole_L132_bok {g : Gm} {w : Wd} (C : Cx g w RX11 cX11_whole 9 (some .int)) {lv : Nat} (hlv : 8 < lv) {N : Nat} {k192 : Int → Int → Int → Int → Int → Int → Mem → Option (Int × Mem)} {r132 : Nat → Int → Int → Int → Int → Int → Int → Int → Mem → Option (Int × Mem)} {l0 : Nat} {l1 : Int} {l2 : Int} {l3 : Int} {l4 : Int} {l5 : Int} {l6 : Int} {l7 : Int} {m : Mem} {out : (Int × Mem)} (hk192 : ∀ l1 l2 l3 l4 l5 l6 m, k192 l1 l2 l3 l4 l5 l6 m = some out → Jd g w 9 (rmL lv 0 0) (Qm g w (some (vI out.1)) out.2) 192 [none, some (vI l1), some (vI l2), some (vI l3), some (vI l4), some (vI l5), some (vI l6), none, none] [] 312 m 0 0) (hr132 : ∀ l0 l1 l2 l3 l4 l5 l6 l7 m, r132 l0 l1 l2 l3 l4 l5 l6 l7 m = some out → Jd g w 9 (rmL lv 0 0) (Qm g w (some (vI out.1)) out.2) 132 [some (vR l0), some (vI l1), some (vI l2), some (vI l3), some (vI l4), some (vI l5), some (vI l6), some (vI l7), none] [] 312 m 0 0) (h : X11_whole_L132_b N k192 r132 l0 l1 l2 l3 l4 l5 l6 l7 m = some out) : Jd g w 9 (rmL lv 0 0) (Qm g w (some (vI out.1)) out.2) 132 [some (vR l0), some (vI l1), some (vI l2), some (vI l3), some (vI l4), some (vI l5), some (vI l6), some (vI l7), none] [] 312 m 0 0 := by
  unfold X11_whole_L132_b at h
  refine j_iload C dX11_whole_132 rfl ?_
  refine j_aload_n C dX11_whole_134 rfl ?_
  refine j_getR C dX11_whole_135 CF11 (by decide) fl_X11_81 rfl rfl h (fun t33 h => ?_)
  refine j_aload_n C dX11_whole_138 rfl ?_
  refine j_getI C dX11_whole_139 CF11 (by decide) fl_X11_51 rfl rfl h (fun t34 h => ?_)
  refine j_iald C dX11_whole_142 rfl h (fun t35 h => ?_)
  refine j_icmp_ge C 192 dX11_whole_143 rfl h (fun c41 h => ?_) (fun c41 h => ?_)
  · refine j_mask [false, true, true, true, true, true, true, false, false] (ls' := [none, some (vI _), some (vI _), some (vI _), some (vI _), some (vI _), some (vI _), none, none]) rfl ?_
    exact hk192 _ _ _ _ _ _ _ h
  · refine j_iload C dX11_whole_146 rfl ?_
    refine j_aload_n C dX11_whole_148 rfl ?_
    refine j_iload C dX11_whole_149 rfl ?_
    obtain ⟨p36, ep36, h⟩ := bind_some h
    have qp36 := X11_dawnOf_ct ep36
    refine j_cVI C dX11_whole_151 vl_X11_518 CF11 rfl qp36.1 qp36.2 (by omega) rfl rfl (Nat.le_of_ble_eq_true rfl) ?_
    refine j_iadd C dX11_whole_154 ?_
    refine j_istore (ls' := [some (vR _), some (vI _), some (vI _), some (vI _), some (vI _), some (vI _), some (vI _), some (vI _), none]) C dX11_whole_155 (by decide) rfl ?_
    refine j_aload_n C dX11_whole_157 rfl ?_
    refine j_iload C dX11_whole_158 rfl ?_
    obtain ⟨p37, ep37, h⟩ := bind_some h
    have qp37 := X11_dawnOf_ct ep37
    refine j_cVI C dX11_whole_160 vl_X11_518 CF11 rfl qp37.1 qp37.2 (by omega) rfl rfl (Nat.le_of_ble_eq_true rfl) ?_
    refine j_iload C dX11_whole_163 rfl ?_
    refine j_iconst C dX11_whole_165 rfl ?_
    refine j_icmp_ne C 173 dX11_whole_166 rfl h (fun c40 h => ?_) (fun c40 h => ?_)
    · refine j_aload_n C dX11_whole_173 rfl ?_
      refine j_iload C dX11_whole_174 rfl ?_
      obtain ⟨p38, ep38, h⟩ := bind_some h
      have qp38 := X11_dawnOf_ct ep38
      refine j_cVI C dX11_whole_176 vl_X11_518 CF11 rfl qp38.1 qp38.2 (by omega) rfl rfl (Nat.le_of_ble_eq_true rfl) ?_
      exact X11_whole_J179_ok C hlv hr132 h
    · refine j_iconst C dX11_whole_169 rfl ?_
      refine j_goto C 179 dX11_whole_170 rfl ?_
      exact X11_whole_J179_ok C hlv hr132 h
set_option maxRecDepth 100000 in
set_option maxHeartbeats 4000000 in
theorem X11_whole_L132_ok {g : Gm} {w : Wd} (C : Cx g w RX11 cX11_whole 9 (some .int)) {lv : Nat} (hlv : 8 < lv) {N : Nat} {k192 : Int → Int → Int → Int → Int → Int → Mem → Option (Int × Mem)} {out : (Int × Mem)} (hk192 : ∀ l1 l2 l3 l4 l5 l6 m, k192 l1 l2 l3 l4 l5 l6 m = some out → Jd g w 9 (rmL lv 0 0) (Qm g w (some (vI out.1)) out.2) 192 [none, some (vI l1), some (vI l2), some (vI l3), some (vI l4), some (vI l5), some (vI l6), none, none] [] 312 m 0 0) (f : Nat) : ∀ {l0 : Nat} {l1 : Int} {l2 : Int} {l3 : Int} {l4 : Int} {l5 : Int} {l6 : Int} {l7 : Int} {m : Mem}, X11_whole_L132 N k192 f l0 l1 l2 l3 l4 l5 l6 l7 m = some out → Jd g w 9 (rmL lv 0 0) (Qm g w (some (vI out.1)) out.2) 132 [some (vR l0), some (vI l1), some (vI l2), some (vI l3), some (vI l4), some (vI l5), some (vI l6), some (vI l7), none] [] 312 m 0 0 := by
  induction f with
  | zero => intro l0 l1 l2 l3 l4 l5 l6 l7 m h; exact none_ne (α := (Int × Mem)) h
  | succ f ih => intro l0 l1 l2 l3 l4 l5 l6 l7 m h; exact X11_whole_L132_bok C hlv hk192 (fun l0 l1 l2 l3 l4 l5 l6 l7 m h => ih h) h
set_option maxRecDepth 100000 in
set_option maxHeartbeats 4000000 in
theorem X11_whole_ct {N : Nat} {l0 : Nat} {l1 : Int} {m : Mem} {out : (Int × Mem)} (h : X11_whole N l0 l1 m = some out) : shK l0 = 11 + 10 ∧ CT yX11_whole cX11_whole 9 (some .int) 9 0 0 [vR l0, vI l1] 312 m (some (vI out.1)) 312 out.2 := by
  unfold X11_whole at h
  obtain ⟨hK, h⟩ := ite_some h
  have hlv : 8 < 9 := by decide
  refine ⟨hK, CT.of (by decide +kernel) rfl (Nat.le_of_ble_eq_true rfl) (ls := [some (vR l0), some (vI l1), none, none, none, none, none, none, none]) rfl fun g w C _ => ?_⟩
  refine j_aload_n C dX11_whole_0 rfl ?_
  obtain ⟨p1, ep1, h⟩ := bind_some h
  have qp1 := X11_isIsland_ct ep1
  refine j_cVI C dX11_whole_1 vl_X11_553 CF11 rfl qp1.1 qp1.2 (by omega) rfl rfl (Nat.le_of_ble_eq_true rfl) ?_
  refine j_if_eq C 16 dX11_whole_4 rfl h (fun c54 h => ?_) (fun c54 h => ?_)
  · refine j_iconst C dX11_whole_16 rfl ?_
    have e := Option.some.inj h
    subst e
    exact j_ri C dX11_whole_17 rfl rfl rfl
  · refine j_iload_n C dX11_whole_7 rfl ?_
    refine j_iconst C dX11_whole_8 rfl ?_
    refine j_iconst C dX11_whole_9 rfl ?_
    obtain ⟨p2, ep2, h⟩ := bind_some h
    have qp2 := X11_is_ct ep2
    refine j_cSI C dX11_whole_10 sl_X11_334 qp2 (by omega) rfl rfl (Nat.le_of_ble_eq_true rfl) ?_
    refine j_if_ne C 18 dX11_whole_13 rfl h (fun c53 h => ?_) (fun c53 h => ?_)
    · refine j_aload_n C dX11_whole_18 rfl ?_
      refine j_iconst C dX11_whole_19 rfl ?_
      obtain ⟨p3, ep3, h⟩ := bind_some h
      have qp3 := X11_nightAsTold_ct ep3
      refine j_cVV C dX11_whole_20 vl_X11_544 CF11 rfl qp3.1 qp3.2 (by omega) rfl rfl (Nat.le_of_ble_eq_true rfl) ?_
      refine j_iconst C dX11_whole_23 rfl ?_
      refine j_istore_n (ls' := [some (vR _), some (vI _), some (vI _), none, none, none, none, none, none]) C dX11_whole_24 (by decide) rfl ?_
      refine j_iconst C dX11_whole_25 rfl ?_
      refine j_istore_n (ls' := [some (vR _), some (vI _), some (vI _), some (vI _), none, none, none, none, none]) C dX11_whole_26 (by decide) rfl ?_
      refine j_iconst C dX11_whole_27 rfl ?_
      refine j_istore (ls' := [some (vR _), some (vI _), some (vI _), some (vI _), some (vI _), none, none, none, none]) C dX11_whole_28 (by decide) rfl ?_
      refine j_iconst C dX11_whole_30 rfl ?_
      refine j_istore (ls' := [some (vR _), some (vI _), some (vI _), some (vI _), some (vI _), some (vI _), none, none, none]) C dX11_whole_31 (by decide) rfl ?_
      refine j_iconst C dX11_whole_33 rfl ?_
      refine j_istore (ls' := [some (vR _), some (vI _), some (vI _), some (vI _), some (vI _), some (vI _), some (vI _), none, none]) C dX11_whole_34 (by decide) rfl ?_
      refine j_iconst C dX11_whole_36 rfl ?_
      refine j_istore (ls' := [some (vR _), some (vI _), some (vI _), some (vI _), some (vI _), some (vI _), some (vI _), some (vI _), none]) C dX11_whole_37 (by decide) rfl ?_
      refine X11_whole_L39_ok C hlv (fun z25 z26 z27 z28 z29 z30 z31 m32 h => ?_) N h
      refine j_iconst C dX11_whole_129 rfl ?_
      refine j_istore (ls' := [some (vR _), some (vI _), some (vI _), some (vI _), some (vI _), some (vI _), some (vI _), some (vI _), none]) C dX11_whole_130 (by decide) rfl ?_
      refine X11_whole_L132_ok C hlv (fun z42 z43 z44 z45 z46 z47 m48 h => ?_) N h
      refine j_iload_n C dX11_whole_192 rfl ?_
      refine j_if_ne C 200 dX11_whole_193 rfl h (fun c52 h => ?_) (fun c52 h => ?_)
      · refine j_iload_n C dX11_whole_200 rfl ?_
        refine j_iconst C dX11_whole_201 rfl ?_
        refine j_icmp_ne C 209 dX11_whole_202 rfl h (fun c51 h => ?_) (fun c51 h => ?_)
        · refine j_iload_n C dX11_whole_209 rfl ?_
          refine j_iconst C dX11_whole_210 rfl ?_
          refine j_icmp_ne C 219 dX11_whole_211 rfl h (fun c50 h => ?_) (fun c50 h => ?_)
          · refine j_iload_n C dX11_whole_219 rfl ?_
            refine j_iconst C dX11_whole_220 rfl ?_
            refine j_icmp_ne C 229 dX11_whole_221 rfl h (fun c49 h => ?_) (fun c49 h => ?_)
            · refine j_iload C dX11_whole_229 rfl ?_
              have e := Option.some.inj h
              subst e
              exact j_ri C dX11_whole_231 rfl rfl rfl
            · refine j_iload C dX11_whole_224 rfl ?_
              refine j_goto C 231 dX11_whole_226 rfl ?_
              have e := Option.some.inj h
              subst e
              exact j_ri C dX11_whole_231 rfl rfl rfl
          · refine j_iload C dX11_whole_214 rfl ?_
            refine j_goto C 231 dX11_whole_216 rfl ?_
            have e := Option.some.inj h
            subst e
            exact j_ri C dX11_whole_231 rfl rfl rfl
        · refine j_iload_n C dX11_whole_205 rfl ?_
          refine j_goto C 231 dX11_whole_206 rfl ?_
          have e := Option.some.inj h
          subst e
          exact j_ri C dX11_whole_231 rfl rfl rfl
      · refine j_iload_n C dX11_whole_196 rfl ?_
        refine j_goto C 231 dX11_whole_197 rfl ?_
        have e := Option.some.inj h
        subst e
        exact j_ri C dX11_whole_231 rfl rfl rfl
    · refine j_iconst C dX11_whole_16 rfl ?_
      have e := Option.some.inj h
      subst e
      exact j_ri C dX11_whole_17 rfl rfl rfl
theorem dX11_wrung_0 : decode cX11_wrung 0 = .ok (.aload_n 0, 1) := by decide +kernel
theorem dX11_wrung_1 : decode cX11_wrung 1 = .ok (.getfield 13, 3) := by decide +kernel
theorem dX11_wrung_4 : decode cX11_wrung 4 = .ok (.istore_n 1, 1) := by decide +kernel
theorem dX11_wrung_5 : decode cX11_wrung 5 = .ok (.aload_n 0, 1) := by decide +kernel
theorem dX11_wrung_6 : decode cX11_wrung 6 = .ok (.iconst 0, 1) := by decide +kernel
theorem dX11_wrung_7 : decode cX11_wrung 7 = .ok (.putfield 13, 3) := by decide +kernel
theorem dX11_wrung_10 : decode cX11_wrung 10 = .ok (.iload_n 1, 1) := by decide +kernel
theorem dX11_wrung_11 : decode cX11_wrung 11 = .ok (.aload_n 0, 1) := by decide +kernel
theorem dX11_wrung_12 : decode cX11_wrung 12 = .ok (.invokevirtual 524, 3) := by decide +kernel
theorem dX11_wrung_15 : decode cX11_wrung 15 = .ok (.if_icmp .ne 7, 3) := by decide +kernel
theorem dX11_wrung_18 : decode cX11_wrung 18 = .ok (.iconst 1, 1) := by decide +kernel
theorem dX11_wrung_19 : decode cX11_wrung 19 = .ok (.goto 4, 3) := by decide +kernel
theorem dX11_wrung_22 : decode cX11_wrung 22 = .ok (.iconst 0, 1) := by decide +kernel
theorem dX11_wrung_23 : decode cX11_wrung 23 = .ok (.istore_n 2, 1) := by decide +kernel
theorem dX11_wrung_24 : decode cX11_wrung 24 = .ok (.iconst 0, 1) := by decide +kernel
theorem dX11_wrung_25 : decode cX11_wrung 25 = .ok (.istore_n 3, 1) := by decide +kernel
theorem dX11_wrung_26 : decode cX11_wrung 26 = .ok (.iconst 0, 1) := by decide +kernel
theorem dX11_wrung_27 : decode cX11_wrung 27 = .ok (.istore 4, 2) := by decide +kernel
theorem dX11_wrung_29 : decode cX11_wrung 29 = .ok (.iload 4, 2) := by decide +kernel
theorem dX11_wrung_31 : decode cX11_wrung 31 = .ok (.iload_n 1, 1) := by decide +kernel
theorem dX11_wrung_32 : decode cX11_wrung 32 = .ok (.if_icmp .ge 60, 3) := by decide +kernel
theorem dX11_wrung_35 : decode cX11_wrung 35 = .ok (.iload_n 2, 1) := by decide +kernel
theorem dX11_wrung_36 : decode cX11_wrung 36 = .ok (.ifCond .eq 56, 3) := by decide +kernel
theorem dX11_wrung_39 : decode cX11_wrung 39 = .ok (.aload_n 0, 1) := by decide +kernel
theorem dX11_wrung_40 : decode cX11_wrung 40 = .ok (.getfield 7, 3) := by decide +kernel
theorem dX11_wrung_43 : decode cX11_wrung 43 = .ok (.iload 4, 2) := by decide +kernel
theorem dX11_wrung_45 : decode cX11_wrung 45 = .ok (.iaload, 1) := by decide +kernel
theorem dX11_wrung_46 : decode cX11_wrung 46 = .ok (.iload_n 1, 1) := by decide +kernel
theorem dX11_wrung_47 : decode cX11_wrung 47 = .ok (.if_icmp .ge 21, 3) := by decide +kernel
theorem dX11_wrung_50 : decode cX11_wrung 50 = .ok (.iload_n 3, 1) := by decide +kernel
theorem dX11_wrung_51 : decode cX11_wrung 51 = .ok (.aload_n 0, 1) := by decide +kernel
theorem dX11_wrung_52 : decode cX11_wrung 52 = .ok (.getfield 7, 3) := by decide +kernel
theorem dX11_wrung_55 : decode cX11_wrung 55 = .ok (.iload 4, 2) := by decide +kernel
theorem dX11_wrung_57 : decode cX11_wrung 57 = .ok (.iaload, 1) := by decide +kernel
theorem dX11_wrung_58 : decode cX11_wrung 58 = .ok (.ishr, 1) := by decide +kernel
theorem dX11_wrung_59 : decode cX11_wrung 59 = .ok (.iconst 1, 1) := by decide +kernel
theorem dX11_wrung_60 : decode cX11_wrung 60 = .ok (.iand, 1) := by decide +kernel
theorem dX11_wrung_61 : decode cX11_wrung 61 = .ok (.ifCond .ne 7, 3) := by decide +kernel
theorem dX11_wrung_64 : decode cX11_wrung 64 = .ok (.iconst 1, 1) := by decide +kernel
theorem dX11_wrung_65 : decode cX11_wrung 65 = .ok (.goto 4, 3) := by decide +kernel
theorem dX11_wrung_68 : decode cX11_wrung 68 = .ok (.iconst 0, 1) := by decide +kernel
theorem dX11_wrung_69 : decode cX11_wrung 69 = .ok (.istore_n 2, 1) := by decide +kernel
theorem dX11_wrung_70 : decode cX11_wrung 70 = .ok (.iload_n 2, 1) := by decide +kernel
theorem dX11_wrung_71 : decode cX11_wrung 71 = .ok (.ifCond .eq 15, 3) := by decide +kernel
theorem dX11_wrung_74 : decode cX11_wrung 74 = .ok (.iload_n 3, 1) := by decide +kernel
theorem dX11_wrung_75 : decode cX11_wrung 75 = .ok (.iconst 1, 1) := by decide +kernel
theorem dX11_wrung_76 : decode cX11_wrung 76 = .ok (.aload_n 0, 1) := by decide +kernel
theorem dX11_wrung_77 : decode cX11_wrung 77 = .ok (.getfield 7, 3) := by decide +kernel
theorem dX11_wrung_80 : decode cX11_wrung 80 = .ok (.iload 4, 2) := by decide +kernel
theorem dX11_wrung_82 : decode cX11_wrung 82 = .ok (.iaload, 1) := by decide +kernel
theorem dX11_wrung_83 : decode cX11_wrung 83 = .ok (.ishl, 1) := by decide +kernel
theorem dX11_wrung_84 : decode cX11_wrung 84 = .ok (.ior, 1) := by decide +kernel
theorem dX11_wrung_85 : decode cX11_wrung 85 = .ok (.istore_n 3, 1) := by decide +kernel
theorem dX11_wrung_86 : decode cX11_wrung 86 = .ok (.iinc 4 1, 3) := by decide +kernel
theorem dX11_wrung_89 : decode cX11_wrung 89 = .ok (.goto (-60), 3) := by decide +kernel
theorem dX11_wrung_92 : decode cX11_wrung 92 = .ok (.iload_n 2, 1) := by decide +kernel
theorem dX11_wrung_93 : decode cX11_wrung 93 = .ok (.ifCond .ne 9, 3) := by decide +kernel
theorem dX11_wrung_96 : decode cX11_wrung 96 = .ok (.aload_n 0, 1) := by decide +kernel
theorem dX11_wrung_97 : decode cX11_wrung 97 = .ok (.iconst 5, 1) := by decide +kernel
theorem dX11_wrung_98 : decode cX11_wrung 98 = .ok (.invokevirtual 248, 3) := by decide +kernel
theorem dX11_wrung_101 : decode cX11_wrung 101 = .ok (.ireturn, 1) := by decide +kernel
theorem dX11_wrung_102 : decode cX11_wrung 102 = .ok (.iconst 0, 1) := by decide +kernel
theorem dX11_wrung_103 : decode cX11_wrung 103 = .ok (.istore 4, 2) := by decide +kernel
theorem dX11_wrung_105 : decode cX11_wrung 105 = .ok (.iload 4, 2) := by decide +kernel
theorem dX11_wrung_107 : decode cX11_wrung 107 = .ok (.iload_n 1, 1) := by decide +kernel
theorem dX11_wrung_108 : decode cX11_wrung 108 = .ok (.if_icmp .ge 23, 3) := by decide +kernel
theorem dX11_wrung_111 : decode cX11_wrung 111 = .ok (.aload_n 0, 1) := by decide +kernel
theorem dX11_wrung_112 : decode cX11_wrung 112 = .ok (.getfield 215, 3) := by decide +kernel
theorem dX11_wrung_115 : decode cX11_wrung 115 = .ok (.iload 4, 2) := by decide +kernel
theorem dX11_wrung_117 : decode cX11_wrung 117 = .ok (.aload_n 0, 1) := by decide +kernel
theorem dX11_wrung_118 : decode cX11_wrung 118 = .ok (.getfield 7, 3) := by decide +kernel
theorem dX11_wrung_121 : decode cX11_wrung 121 = .ok (.iload 4, 2) := by decide +kernel
theorem dX11_wrung_123 : decode cX11_wrung 123 = .ok (.iaload, 1) := by decide +kernel
theorem dX11_wrung_124 : decode cX11_wrung 124 = .ok (.iastore, 1) := by decide +kernel
theorem dX11_wrung_125 : decode cX11_wrung 125 = .ok (.iinc 4 1, 3) := by decide +kernel
theorem dX11_wrung_128 : decode cX11_wrung 128 = .ok (.goto (-23), 3) := by decide +kernel
theorem dX11_wrung_131 : decode cX11_wrung 131 = .ok (.aload_n 0, 1) := by decide +kernel
theorem dX11_wrung_132 : decode cX11_wrung 132 = .ok (.iconst 0, 1) := by decide +kernel
theorem dX11_wrung_133 : decode cX11_wrung 133 = .ok (.invokevirtual 544, 3) := by decide +kernel
theorem dX11_wrung_136 : decode cX11_wrung 136 = .ok (.aload_n 0, 1) := by decide +kernel
theorem dX11_wrung_137 : decode cX11_wrung 137 = .ok (.iload_n 1, 1) := by decide +kernel
theorem dX11_wrung_138 : decode cX11_wrung 138 = .ok (.invokevirtual 579, 3) := by decide +kernel
theorem dX11_wrung_141 : decode cX11_wrung 141 = .ok (.ireturn, 1) := by decide +kernel
set_option maxRecDepth 100000 in
set_option maxHeartbeats 4000000 in
theorem X11_wrung_J86_ok {g : Gm} {w : Wd} (C : Cx g w RX11 cX11_wrung 5 (some .int)) {lv : Nat} (hlv : 8 < lv) {N : Nat} {r29 : Nat → Int → Int → Int → Int → Mem → Option (Int × Mem) } {l0 : Nat} {l1 : Int} {l2 : Int} {l3 : Int} {l4 : Int} {m : Mem} {out : (Int × Mem)} (hr29 : ∀ l0 l1 l2 l3 l4 m, r29 l0 l1 l2 l3 l4 m = some out → Jd g w 5 (rmL lv 0 0) (Qm g w (some (vI out.1)) out.2) 29 [some (vR l0), some (vI l1), some (vI l2), some (vI l3), some (vI l4)] [] 312 m 0 0) (h : X11_wrung_J86 N r29 l0 l1 l2 l3 l4 m = some out) : Jd g w 5 (rmL lv 0 0) (Qm g w (some (vI out.1)) out.2) 86 [some (vR l0), some (vI l1), some (vI l2), some (vI l3), some (vI l4)] [] 312 m 0 0 := by
  unfold X11_wrung_J86 at h
  refine j_iinc (ls' := [some (vR _), some (vI _), some (vI _), some (vI _), some (vI _)]) C dX11_wrung_86 rfl (by decide) rfl ?_
  refine j_goto C 29 dX11_wrung_89 rfl ?_
  exact hr29 _ _ _ _ _ _ h
set_option maxRecDepth 100000 in
set_option maxHeartbeats 4000000 in
theorem X11_wrung_J69_ok {g : Gm} {w : Wd} (C : Cx g w RX11 cX11_wrung 5 (some .int)) {lv : Nat} (hlv : 8 < lv) {N : Nat} {r29 : Nat → Int → Int → Int → Int → Mem → Option (Int × Mem) } {l0 : Nat} {l1 : Int} {l3 : Int} {l4 : Int} {s0 : Int} {m : Mem} {out : (Int × Mem)} (hr29 : ∀ l0 l1 l2 l3 l4 m, r29 l0 l1 l2 l3 l4 m = some out → Jd g w 5 (rmL lv 0 0) (Qm g w (some (vI out.1)) out.2) 29 [some (vR l0), some (vI l1), some (vI l2), some (vI l3), some (vI l4)] [] 312 m 0 0) (h : X11_wrung_J69 N r29 l0 l1 l3 l4 s0 m = some out) : Jd g w 5 (rmL lv 0 0) (Qm g w (some (vI out.1)) out.2) 69 [some (vR l0), some (vI l1), none, some (vI l3), some (vI l4)] [vI s0] 312 m 0 0 := by
  unfold X11_wrung_J69 at h
  refine j_istore_n (ls' := [some (vR _), some (vI _), some (vI _), some (vI _), some (vI _)]) C dX11_wrung_69 (by decide) rfl ?_
  refine j_iload_n C dX11_wrung_70 rfl ?_
  refine j_if_eq C 86 dX11_wrung_71 rfl h (fun c8 h => ?_) (fun c8 h => ?_)
  · exact X11_wrung_J86_ok C hlv hr29 h
  · refine j_iload_n C dX11_wrung_74 rfl ?_
    refine j_iconst C dX11_wrung_75 rfl ?_
    refine j_aload_n C dX11_wrung_76 rfl ?_
    refine j_getR C dX11_wrung_77 CF11 (by decide) fl_X11_7 rfl rfl h (fun t6 h => ?_)
    refine j_iload C dX11_wrung_80 rfl ?_
    refine j_iald C dX11_wrung_82 rfl h (fun t7 h => ?_)
    refine j_ishl C dX11_wrung_83 ?_
    refine j_ior C dX11_wrung_84 ?_
    refine j_istore_n (ls' := [some (vR _), some (vI _), some (vI _), some (vI _), some (vI _)]) C dX11_wrung_85 (by decide) rfl ?_
    exact X11_wrung_J86_ok C hlv hr29 h
set_option maxRecDepth 100000 in
set_option maxHeartbeats 4000000 in
theorem X11_wrung_J68_ok {g : Gm} {w : Wd} (C : Cx g w RX11 cX11_wrung 5 (some .int)) {lv : Nat} (hlv : 8 < lv) {N : Nat} {r29 : Nat → Int → Int → Int → Int → Mem → Option (Int × Mem) } {l0 : Nat} {l1 : Int} {l3 : Int} {l4 : Int} {m : Mem} {out : (Int × Mem)} (hr29 : ∀ l0 l1 l2 l3 l4 m, r29 l0 l1 l2 l3 l4 m = some out → Jd g w 5 (rmL lv 0 0) (Qm g w (some (vI out.1)) out.2) 29 [some (vR l0), some (vI l1), some (vI l2), some (vI l3), some (vI l4)] [] 312 m 0 0) (h : X11_wrung_J68 N r29 l0 l1 l3 l4 m = some out) : Jd g w 5 (rmL lv 0 0) (Qm g w (some (vI out.1)) out.2) 68 [some (vR l0), some (vI l1), none, some (vI l3), some (vI l4)] [] 312 m 0 0 := by
  unfold X11_wrung_J68 at h
  refine j_iconst C dX11_wrung_68 rfl ?_
  exact X11_wrung_J69_ok C hlv hr29 h
set_option maxRecDepth 100000 in
set_option maxHeartbeats 4000000 in
theorem X11_wrung_L29_bok {g : Gm} {w : Wd} (C : Cx g w RX11 cX11_wrung 5 (some .int)) {lv : Nat} (hlv : 8 < lv) {N : Nat} {k92 : Nat → Int → Int → Mem → Option (Int × Mem)} {r29 : Nat → Int → Int → Int → Int → Mem → Option (Int × Mem)} {l0 : Nat} {l1 : Int} {l2 : Int} {l3 : Int} {l4 : Int} {m : Mem} {out : (Int × Mem)} (hk92 : ∀ l0 l1 l2 m, k92 l0 l1 l2 m = some out → Jd g w 5 (rmL lv 0 0) (Qm g w (some (vI out.1)) out.2) 92 [some (vR l0), some (vI l1), some (vI l2), none, none] [] 312 m 0 0) (hr29 : ∀ l0 l1 l2 l3 l4 m, r29 l0 l1 l2 l3 l4 m = some out → Jd g w 5 (rmL lv 0 0) (Qm g w (some (vI out.1)) out.2) 29 [some (vR l0), some (vI l1), some (vI l2), some (vI l3), some (vI l4)] [] 312 m 0 0) (h : X11_wrung_L29_b N k92 r29 l0 l1 l2 l3 l4 m = some out) : Jd g w 5 (rmL lv 0 0) (Qm g w (some (vI out.1)) out.2) 29 [some (vR l0), some (vI l1), some (vI l2), some (vI l3), some (vI l4)] [] 312 m 0 0 := by
  unfold X11_wrung_L29_b at h
  refine j_iload C dX11_wrung_29 rfl ?_
  refine j_iload_n C dX11_wrung_31 rfl ?_
  refine j_icmp_ge C 92 dX11_wrung_32 rfl h (fun c14 h => ?_) (fun c14 h => ?_)
  · refine j_mask [true, true, true, false, false] (ls' := [some (vR _), some (vI _), some (vI _), none, none]) rfl ?_
    exact hk92 _ _ _ _ h
  · refine j_iload_n C dX11_wrung_35 rfl ?_
    refine j_if_eq C 92 dX11_wrung_36 rfl h (fun c13 h => ?_) (fun c13 h => ?_)
    · refine j_mask [true, true, true, false, false] (ls' := [some (vR _), some (vI _), some (vI _), none, none]) rfl ?_
      exact hk92 _ _ _ _ h
    · refine j_aload_n C dX11_wrung_39 rfl ?_
      refine j_getR C dX11_wrung_40 CF11 (by decide) fl_X11_7 rfl rfl h (fun t4 h => ?_)
      refine j_iload C dX11_wrung_43 rfl ?_
      refine j_iald C dX11_wrung_45 rfl h (fun t5 h => ?_)
      refine j_iload_n C dX11_wrung_46 rfl ?_
      refine j_icmp_ge C 68 dX11_wrung_47 rfl h (fun c12 h => ?_) (fun c12 h => ?_)
      · refine j_mask [true, true, false, true, true] (ls' := [some (vR _), some (vI _), none, some (vI _), some (vI _)]) rfl ?_
        exact X11_wrung_J68_ok C hlv hr29 h
      · refine j_iload_n C dX11_wrung_50 rfl ?_
        refine j_aload_n C dX11_wrung_51 rfl ?_
        refine j_getR C dX11_wrung_52 CF11 (by decide) fl_X11_7 rfl rfl h (fun t9 h => ?_)
        refine j_iload C dX11_wrung_55 rfl ?_
        refine j_iald C dX11_wrung_57 rfl h (fun t10 h => ?_)
        refine j_ishr C dX11_wrung_58 ?_
        refine j_iconst C dX11_wrung_59 rfl ?_
        refine j_iand C dX11_wrung_60 ?_
        refine j_if_ne C 68 dX11_wrung_61 rfl h (fun c11 h => ?_) (fun c11 h => ?_)
        · refine j_mask [true, true, false, true, true] (ls' := [some (vR _), some (vI _), none, some (vI _), some (vI _)]) rfl ?_
          exact X11_wrung_J68_ok C hlv hr29 h
        · refine j_iconst C dX11_wrung_64 rfl ?_
          refine j_goto C 69 dX11_wrung_65 rfl ?_
          refine j_mask [true, true, false, true, true] (ls' := [some (vR _), some (vI _), none, some (vI _), some (vI _)]) rfl ?_
          exact X11_wrung_J69_ok C hlv hr29 h
set_option maxRecDepth 100000 in
set_option maxHeartbeats 4000000 in
theorem X11_wrung_L29_ok {g : Gm} {w : Wd} (C : Cx g w RX11 cX11_wrung 5 (some .int)) {lv : Nat} (hlv : 8 < lv) {N : Nat} {k92 : Nat → Int → Int → Mem → Option (Int × Mem)} {out : (Int × Mem)} (hk92 : ∀ l0 l1 l2 m, k92 l0 l1 l2 m = some out → Jd g w 5 (rmL lv 0 0) (Qm g w (some (vI out.1)) out.2) 92 [some (vR l0), some (vI l1), some (vI l2), none, none] [] 312 m 0 0) (f : Nat) : ∀ {l0 : Nat} {l1 : Int} {l2 : Int} {l3 : Int} {l4 : Int} {m : Mem}, X11_wrung_L29 N k92 f l0 l1 l2 l3 l4 m = some out → Jd g w 5 (rmL lv 0 0) (Qm g w (some (vI out.1)) out.2) 29 [some (vR l0), some (vI l1), some (vI l2), some (vI l3), some (vI l4)] [] 312 m 0 0 := by
  induction f with
  | zero => intro l0 l1 l2 l3 l4 m h; exact none_ne (α := (Int × Mem)) h
  | succ f ih => intro l0 l1 l2 l3 l4 m h; exact X11_wrung_L29_bok C hlv hk92 (fun l0 l1 l2 l3 l4 m h => ih h) h
set_option maxRecDepth 100000 in
set_option maxHeartbeats 4000000 in
theorem X11_wrung_L105_bok {g : Gm} {w : Wd} (C : Cx g w RX11 cX11_wrung 5 (some .int)) {lv : Nat} (hlv : 8 < lv) {N : Nat} {k131 : Nat → Int → Mem → Option (Int × Mem)} {r105 : Nat → Int → Int → Mem → Option (Int × Mem)} {l0 : Nat} {l1 : Int} {l4 : Int} {m : Mem} {out : (Int × Mem)} (hk131 : ∀ l0 l1 m, k131 l0 l1 m = some out → Jd g w 5 (rmL lv 0 0) (Qm g w (some (vI out.1)) out.2) 131 [some (vR l0), some (vI l1), none, none, none] [] 312 m 0 0) (hr105 : ∀ l0 l1 l4 m, r105 l0 l1 l4 m = some out → Jd g w 5 (rmL lv 0 0) (Qm g w (some (vI out.1)) out.2) 105 [some (vR l0), some (vI l1), none, none, some (vI l4)] [] 312 m 0 0) (h : X11_wrung_L105_b N k131 r105 l0 l1 l4 m = some out) : Jd g w 5 (rmL lv 0 0) (Qm g w (some (vI out.1)) out.2) 105 [some (vR l0), some (vI l1), none, none, some (vI l4)] [] 312 m 0 0 := by
  unfold X11_wrung_L105_b at h
  refine j_iload C dX11_wrung_105 rfl ?_
  refine j_iload_n C dX11_wrung_107 rfl ?_
  refine j_icmp_ge C 131 dX11_wrung_108 rfl h (fun c23 h => ?_) (fun c23 h => ?_)
  · refine j_mask [true, true, false, false, false] (ls' := [some (vR _), some (vI _), none, none, none]) rfl ?_
    exact hk131 _ _ _ h
  · refine j_aload_n C dX11_wrung_111 rfl ?_
    refine j_getR C dX11_wrung_112 CF11 (by decide) fl_X11_215 rfl rfl h (fun t19 h => ?_)
    refine j_iload C dX11_wrung_115 rfl ?_
    refine j_aload_n C dX11_wrung_117 rfl ?_
    refine j_getR C dX11_wrung_118 CF11 (by decide) fl_X11_7 rfl rfl h (fun t20 h => ?_)
    refine j_iload C dX11_wrung_121 rfl ?_
    refine j_iald C dX11_wrung_123 rfl h (fun t21 h => ?_)
    refine j_iast C dX11_wrung_124 rfl h (fun m22 h => ?_)
    refine j_iinc (ls' := [some (vR _), some (vI _), none, none, some (vI _)]) C dX11_wrung_125 rfl (by decide) rfl ?_
    refine j_goto C 105 dX11_wrung_128 rfl ?_
    exact hr105 _ _ _ _ h
set_option maxRecDepth 100000 in
set_option maxHeartbeats 4000000 in
theorem X11_wrung_L105_ok {g : Gm} {w : Wd} (C : Cx g w RX11 cX11_wrung 5 (some .int)) {lv : Nat} (hlv : 8 < lv) {N : Nat} {k131 : Nat → Int → Mem → Option (Int × Mem)} {out : (Int × Mem)} (hk131 : ∀ l0 l1 m, k131 l0 l1 m = some out → Jd g w 5 (rmL lv 0 0) (Qm g w (some (vI out.1)) out.2) 131 [some (vR l0), some (vI l1), none, none, none] [] 312 m 0 0) (f : Nat) : ∀ {l0 : Nat} {l1 : Int} {l4 : Int} {m : Mem}, X11_wrung_L105 N k131 f l0 l1 l4 m = some out → Jd g w 5 (rmL lv 0 0) (Qm g w (some (vI out.1)) out.2) 105 [some (vR l0), some (vI l1), none, none, some (vI l4)] [] 312 m 0 0 := by
  induction f with
  | zero => intro l0 l1 l4 m h; exact none_ne (α := (Int × Mem)) h
  | succ f ih => intro l0 l1 l4 m h; exact X11_wrung_L105_bok C hlv hk131 (fun l0 l1 l4 m h => ih h) h
set_option maxRecDepth 100000 in
set_option maxHeartbeats 4000000 in
theorem X11_wrung_J23_ok {g : Gm} {w : Wd} (C : Cx g w RX11 cX11_wrung 5 (some .int)) {lv : Nat} (hlv : 8 < lv) {N : Nat} {l0 : Nat} {l1 : Int} {s0 : Int} {m : Mem} {out : (Int × Mem)} (h : X11_wrung_J23 N l0 l1 s0 m = some out) : Jd g w 5 (rmL lv 0 0) (Qm g w (some (vI out.1)) out.2) 23 [some (vR l0), some (vI l1), none, none, none] [vI s0] 312 m 0 0 := by
  unfold X11_wrung_J23 at h
  refine j_istore_n (ls' := [some (vR _), some (vI _), some (vI _), none, none]) C dX11_wrung_23 (by decide) rfl ?_
  refine j_iconst C dX11_wrung_24 rfl ?_
  refine j_istore_n (ls' := [some (vR _), some (vI _), some (vI _), some (vI _), none]) C dX11_wrung_25 (by decide) rfl ?_
  refine j_iconst C dX11_wrung_26 rfl ?_
  refine j_istore (ls' := [some (vR _), some (vI _), some (vI _), some (vI _), some (vI _)]) C dX11_wrung_27 (by decide) rfl ?_
  refine X11_wrung_L29_ok C hlv (fun z15 z16 z17 m18 h => ?_) N h
  refine j_iload_n C dX11_wrung_92 rfl ?_
  refine j_if_ne C 102 dX11_wrung_93 rfl h (fun c30 h => ?_) (fun c30 h => ?_)
  · refine j_iconst C dX11_wrung_102 rfl ?_
    refine j_istore (ls' := [some (vR _), some (vI _), some (vI _), none, some (vI _)]) C dX11_wrung_103 (by decide) rfl ?_
    refine j_mask [true, true, false, false, true] (ls' := [some (vR _), some (vI _), none, none, some (vI _)]) rfl ?_
    refine X11_wrung_L105_ok C hlv (fun z24 z25 m26 h => ?_) N h
    refine j_aload_n C dX11_wrung_131 rfl ?_
    refine j_iconst C dX11_wrung_132 rfl ?_
    obtain ⟨p27, ep27, h⟩ := bind_some h
    have qp27 := X11_nightAsTold_ct ep27
    refine j_cVV C dX11_wrung_133 vl_X11_544 CF11 rfl qp27.1 qp27.2 (by omega) rfl rfl (Nat.le_of_ble_eq_true rfl) ?_
    refine j_aload_n C dX11_wrung_136 rfl ?_
    refine j_iload_n C dX11_wrung_137 rfl ?_
    obtain ⟨p28, ep28, h⟩ := bind_some h
    have qp28 := X11_gotBy_ct ep28
    refine j_cVI C dX11_wrung_138 vl_X11_579 CF11 rfl qp28.1 qp28.2 (by omega) rfl rfl (Nat.le_of_ble_eq_true rfl) ?_
    have e := Option.some.inj h
    subst e
    exact j_ri C dX11_wrung_141 rfl rfl rfl
  · refine j_aload_n C dX11_wrung_96 rfl ?_
    refine j_iconst C dX11_wrung_97 rfl ?_
    obtain ⟨p29, ep29, h⟩ := bind_some h
    have qp29 := X11_refuses_ct ep29
    refine j_cVI C dX11_wrung_98 vl_X11_248 CF11 rfl qp29.1 qp29.2 (by omega) rfl rfl (Nat.le_of_ble_eq_true rfl) ?_
    have e := Option.some.inj h
    subst e
    exact j_ri C dX11_wrung_101 rfl rfl rfl
set_option maxRecDepth 100000 in
set_option maxHeartbeats 4000000 in
theorem X11_wrung_ct {N : Nat} {l0 : Nat} {m : Mem} {out : (Int × Mem)} (h : X11_wrung N l0 m = some out) : shK l0 = 11 + 10 ∧ CT yX11_wrung cX11_wrung 5 (some .int) 9 0 0 [vR l0] 312 m (some (vI out.1)) 312 out.2 := by
  unfold X11_wrung at h
  obtain ⟨hK, h⟩ := ite_some h
  have hlv : 8 < 9 := by decide
  refine ⟨hK, CT.of (by decide +kernel) rfl (Nat.le_of_ble_eq_true rfl) (ls := [some (vR l0), none, none, none, none]) rfl fun g w C _ => ?_⟩
  refine j_aload_n C dX11_wrung_0 rfl ?_
  refine j_getI C dX11_wrung_1 CF11 (by decide) fl_X11_13 rfl rfl h (fun t1 h => ?_)
  refine j_istore_n (ls' := [some (vR _), some (vI _), none, none, none]) C dX11_wrung_4 (by decide) rfl ?_
  refine j_aload_n C dX11_wrung_5 rfl ?_
  refine j_iconst C dX11_wrung_6 rfl ?_
  refine j_putI C dX11_wrung_7 CF11 (by decide) fl_X11_13 rfl rfl rfl rfl h (fun m2 h => ?_)
  refine j_iload_n C dX11_wrung_10 rfl ?_
  refine j_aload_n C dX11_wrung_11 rfl ?_
  obtain ⟨p3, ep3, h⟩ := bind_some h
  have qp3 := X11_cloths_ct ep3
  refine j_cVI C dX11_wrung_12 vl_X11_524 CF11 rfl qp3.1 qp3.2 (by omega) rfl rfl (Nat.le_of_ble_eq_true rfl) ?_
  refine j_icmp_ne C 22 dX11_wrung_15 rfl h (fun c31 h => ?_) (fun c31 h => ?_)
  · refine j_iconst C dX11_wrung_22 rfl ?_
    exact X11_wrung_J23_ok C hlv h
  · refine j_iconst C dX11_wrung_18 rfl ?_
    refine j_goto C 23 dX11_wrung_19 rfl ?_
    exact X11_wrung_J23_ok C hlv h
