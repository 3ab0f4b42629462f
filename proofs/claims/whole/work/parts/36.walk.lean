theorem dX11_cells_0 : decode cX11_cells 0 = .ok (.aload_n 0, 1) := by decide +kernel
theorem dX11_cells_1 : decode cX11_cells 1 = .ok (.getfield 54, 3) := by decide +kernel
theorem dX11_cells_4 : decode cX11_cells 4 = .ok (.aload_n 0, 1) := by decide +kernel
theorem dX11_cells_5 : decode cX11_cells 5 = .ok (.getfield 51, 3) := by decide +kernel
theorem dX11_cells_8 : decode cX11_cells 8 = .ok (.iaload, 1) := by decide +kernel
theorem dX11_cells_9 : decode cX11_cells 9 = .ok (.aload_n 0, 1) := by decide +kernel
theorem dX11_cells_10 : decode cX11_cells 10 = .ok (.getfield 57, 3) := by decide +kernel
theorem dX11_cells_13 : decode cX11_cells 13 = .ok (.aload_n 0, 1) := by decide +kernel
theorem dX11_cells_14 : decode cX11_cells 14 = .ok (.getfield 51, 3) := by decide +kernel
theorem dX11_cells_17 : decode cX11_cells 17 = .ok (.iaload, 1) := by decide +kernel
theorem dX11_cells_18 : decode cX11_cells 18 = .ok (.imul, 1) := by decide +kernel
theorem dX11_cells_19 : decode cX11_cells 19 = .ok (.ireturn, 1) := by decide +kernel
set_option maxRecDepth 100000 in
set_option maxHeartbeats 4000000 in
theorem X11_cells_ct {l0 : Nat} {m : Mem} {out : Int} (h : X11_cells l0 m = some out) : shK l0 = 11 + 10 ∧ CT yX11_cells cX11_cells 1 (some .int) 1 0 0 [vR l0] 312 m (some (vI out)) 312 m := by
  unfold X11_cells at h
  obtain ⟨hK, h⟩ := ite_some h
  have hlv : 0 < 1 := by decide
  refine ⟨hK, CT.of (by decide +kernel) rfl (Nat.le_of_ble_eq_true rfl) (ls := [some (vR l0)]) rfl fun g w C _ => ?_⟩
  refine j_aload_n C dX11_cells_0 rfl ?_
  refine j_getR C dX11_cells_1 CF11 (by decide) fl_X11_54 rfl rfl h (fun t1 h => ?_)
  refine j_aload_n C dX11_cells_4 rfl ?_
  refine j_getI C dX11_cells_5 CF11 (by decide) fl_X11_51 rfl rfl h (fun t2 h => ?_)
  refine j_iald C dX11_cells_8 rfl h (fun t3 h => ?_)
  refine j_aload_n C dX11_cells_9 rfl ?_
  refine j_getR C dX11_cells_10 CF11 (by decide) fl_X11_57 rfl rfl h (fun t4 h => ?_)
  refine j_aload_n C dX11_cells_13 rfl ?_
  refine j_getI C dX11_cells_14 CF11 (by decide) fl_X11_51 rfl rfl h (fun t5 h => ?_)
  refine j_iald C dX11_cells_17 rfl h (fun t6 h => ?_)
  refine j_imul C dX11_cells_18 ?_
  exact j_ri C dX11_cells_19 rfl (Option.some.inj h).symm rfl
theorem dX11_isWall_0 : decode cX11_isWall 0 = .ok (.aload_n 0, 1) := by decide +kernel
theorem dX11_isWall_1 : decode cX11_isWall 1 = .ok (.getfield 167, 3) := by decide +kernel
theorem dX11_isWall_4 : decode cX11_isWall 4 = .ok (.bipush 42, 2) := by decide +kernel
theorem dX11_isWall_6 : decode cX11_isWall 6 = .ok (.iload_n 1, 1) := by decide +kernel
theorem dX11_isWall_7 : decode cX11_isWall 7 = .ok (.imul, 1) := by decide +kernel
theorem dX11_isWall_8 : decode cX11_isWall 8 = .ok (.iload_n 2, 1) := by decide +kernel
theorem dX11_isWall_9 : decode cX11_isWall 9 = .ok (.iadd, 1) := by decide +kernel
theorem dX11_isWall_10 : decode cX11_isWall 10 = .ok (.iaload, 1) := by decide +kernel
theorem dX11_isWall_11 : decode cX11_isWall 11 = .ok (.iconst 1, 1) := by decide +kernel
theorem dX11_isWall_12 : decode cX11_isWall 12 = .ok (.if_icmp .ne 7, 3) := by decide +kernel
theorem dX11_isWall_15 : decode cX11_isWall 15 = .ok (.iconst 1, 1) := by decide +kernel
theorem dX11_isWall_16 : decode cX11_isWall 16 = .ok (.goto 4, 3) := by decide +kernel
theorem dX11_isWall_19 : decode cX11_isWall 19 = .ok (.iconst 0, 1) := by decide +kernel
theorem dX11_isWall_20 : decode cX11_isWall 20 = .ok (.ireturn, 1) := by decide +kernel
set_option maxRecDepth 100000 in
set_option maxHeartbeats 4000000 in
theorem X11_isWall_ct {l0 : Nat} {l1 : Int} {l2 : Int} {m : Mem} {out : Int} (h : X11_isWall l0 l1 l2 m = some out) : shK l0 = 11 + 10 ∧ CT yX11_isWall cX11_isWall 3 (some .boolean) 1 0 0 [vR l0, vI l1, vI l2] 312 m (some (vI out)) 312 m := by
  unfold X11_isWall at h
  obtain ⟨hK, h⟩ := ite_some h
  have hlv : 0 < 1 := by decide
  refine ⟨hK, CT.of (by decide +kernel) rfl (Nat.le_of_ble_eq_true rfl) (ls := [some (vR l0), some (vI l1), some (vI l2)]) rfl fun g w C _ => ?_⟩
  refine j_aload_n C dX11_isWall_0 rfl ?_
  refine j_getR C dX11_isWall_1 CF11 (by decide) fl_X11_167 rfl rfl h (fun t1 h => ?_)
  refine j_bipush C dX11_isWall_4 rfl ?_
  refine j_iload_n C dX11_isWall_6 rfl ?_
  refine j_imul C dX11_isWall_7 ?_
  refine j_iload_n C dX11_isWall_8 rfl ?_
  refine j_iadd C dX11_isWall_9 ?_
  refine j_iald C dX11_isWall_10 rfl h (fun t2 h => ?_)
  refine j_iconst C dX11_isWall_11 rfl ?_
  refine j_icmp_ne C 19 dX11_isWall_12 rfl h (fun c3 h => ?_) (fun c3 h => ?_)
  · refine j_iconst C dX11_isWall_19 rfl ?_
    exact j_rz C dX11_isWall_20 rfl (retZ_some h) rfl
  · refine j_iconst C dX11_isWall_15 rfl ?_
    refine j_goto C 20 dX11_isWall_16 rfl ?_
    exact j_rz C dX11_isWall_20 rfl (retZ_some h) rfl
theorem dX11_isHouse_0 : decode cX11_isHouse 0 = .ok (.aload_n 0, 1) := by decide +kernel
theorem dX11_isHouse_1 : decode cX11_isHouse 1 = .ok (.getfield 66, 3) := by decide +kernel
theorem dX11_isHouse_4 : decode cX11_isHouse 4 = .ok (.bipush 42, 2) := by decide +kernel
theorem dX11_isHouse_6 : decode cX11_isHouse 6 = .ok (.aload_n 0, 1) := by decide +kernel
theorem dX11_isHouse_7 : decode cX11_isHouse 7 = .ok (.getfield 51, 3) := by decide +kernel
theorem dX11_isHouse_10 : decode cX11_isHouse 10 = .ok (.imul, 1) := by decide +kernel
theorem dX11_isHouse_11 : decode cX11_isHouse 11 = .ok (.iload_n 1, 1) := by decide +kernel
theorem dX11_isHouse_12 : decode cX11_isHouse 12 = .ok (.iadd, 1) := by decide +kernel
theorem dX11_isHouse_13 : decode cX11_isHouse 13 = .ok (.iaload, 1) := by decide +kernel
theorem dX11_isHouse_14 : decode cX11_isHouse 14 = .ok (.iconst 1, 1) := by decide +kernel
theorem dX11_isHouse_15 : decode cX11_isHouse 15 = .ok (.if_icmp .ne 7, 3) := by decide +kernel
theorem dX11_isHouse_18 : decode cX11_isHouse 18 = .ok (.iconst 1, 1) := by decide +kernel
theorem dX11_isHouse_19 : decode cX11_isHouse 19 = .ok (.goto 4, 3) := by decide +kernel
theorem dX11_isHouse_22 : decode cX11_isHouse 22 = .ok (.iconst 0, 1) := by decide +kernel
theorem dX11_isHouse_23 : decode cX11_isHouse 23 = .ok (.ireturn, 1) := by decide +kernel
set_option maxRecDepth 100000 in
set_option maxHeartbeats 4000000 in
theorem X11_isHouse_ct {l0 : Nat} {l1 : Int} {m : Mem} {out : Int} (h : X11_isHouse l0 l1 m = some out) : shK l0 = 11 + 10 ∧ CT yX11_isHouse cX11_isHouse 2 (some .boolean) 1 0 0 [vR l0, vI l1] 312 m (some (vI out)) 312 m := by
  unfold X11_isHouse at h
  obtain ⟨hK, h⟩ := ite_some h
  have hlv : 0 < 1 := by decide
  refine ⟨hK, CT.of (by decide +kernel) rfl (Nat.le_of_ble_eq_true rfl) (ls := [some (vR l0), some (vI l1)]) rfl fun g w C _ => ?_⟩
  refine j_aload_n C dX11_isHouse_0 rfl ?_
  refine j_getR C dX11_isHouse_1 CF11 (by decide) fl_X11_66 rfl rfl h (fun t1 h => ?_)
  refine j_bipush C dX11_isHouse_4 rfl ?_
  refine j_aload_n C dX11_isHouse_6 rfl ?_
  refine j_getI C dX11_isHouse_7 CF11 (by decide) fl_X11_51 rfl rfl h (fun t2 h => ?_)
  refine j_imul C dX11_isHouse_10 ?_
  refine j_iload_n C dX11_isHouse_11 rfl ?_
  refine j_iadd C dX11_isHouse_12 ?_
  refine j_iald C dX11_isHouse_13 rfl h (fun t3 h => ?_)
  refine j_iconst C dX11_isHouse_14 rfl ?_
  refine j_icmp_ne C 22 dX11_isHouse_15 rfl h (fun c4 h => ?_) (fun c4 h => ?_)
  · refine j_iconst C dX11_isHouse_22 rfl ?_
    exact j_rz C dX11_isHouse_23 rfl (retZ_some h) rfl
  · refine j_iconst C dX11_isHouse_18 rfl ?_
    refine j_goto C 23 dX11_isHouse_19 rfl ?_
    exact j_rz C dX11_isHouse_23 rfl (retZ_some h) rfl
theorem dX11_thingAt_0 : decode cX11_thingAt 0 = .ok (.iconst 0, 1) := by decide +kernel
theorem dX11_thingAt_1 : decode cX11_thingAt 1 = .ok (.istore_n 3, 1) := by decide +kernel
theorem dX11_thingAt_2 : decode cX11_thingAt 2 = .ok (.iload_n 3, 1) := by decide +kernel
theorem dX11_thingAt_3 : decode cX11_thingAt 3 = .ok (.aload_n 0, 1) := by decide +kernel
theorem dX11_thingAt_4 : decode cX11_thingAt 4 = .ok (.getfield 81, 3) := by decide +kernel
theorem dX11_thingAt_7 : decode cX11_thingAt 7 = .ok (.aload_n 0, 1) := by decide +kernel
theorem dX11_thingAt_8 : decode cX11_thingAt 8 = .ok (.getfield 51, 3) := by decide +kernel
theorem dX11_thingAt_11 : decode cX11_thingAt 11 = .ok (.iaload, 1) := by decide +kernel
theorem dX11_thingAt_12 : decode cX11_thingAt 12 = .ok (.if_icmp .ge 26, 3) := by decide +kernel
theorem dX11_thingAt_15 : decode cX11_thingAt 15 = .ok (.aload_n 0, 1) := by decide +kernel
theorem dX11_thingAt_16 : decode cX11_thingAt 16 = .ok (.getfield 170, 3) := by decide +kernel
theorem dX11_thingAt_19 : decode cX11_thingAt 19 = .ok (.bipush 10, 2) := by decide +kernel
theorem dX11_thingAt_21 : decode cX11_thingAt 21 = .ok (.iload_n 1, 1) := by decide +kernel
theorem dX11_thingAt_22 : decode cX11_thingAt 22 = .ok (.imul, 1) := by decide +kernel
theorem dX11_thingAt_23 : decode cX11_thingAt 23 = .ok (.iload_n 3, 1) := by decide +kernel
theorem dX11_thingAt_24 : decode cX11_thingAt 24 = .ok (.iadd, 1) := by decide +kernel
theorem dX11_thingAt_25 : decode cX11_thingAt 25 = .ok (.iaload, 1) := by decide +kernel
theorem dX11_thingAt_26 : decode cX11_thingAt 26 = .ok (.iload_n 2, 1) := by decide +kernel
theorem dX11_thingAt_27 : decode cX11_thingAt 27 = .ok (.if_icmp .ne 5, 3) := by decide +kernel
theorem dX11_thingAt_30 : decode cX11_thingAt 30 = .ok (.iload_n 3, 1) := by decide +kernel
theorem dX11_thingAt_31 : decode cX11_thingAt 31 = .ok (.ireturn, 1) := by decide +kernel
theorem dX11_thingAt_32 : decode cX11_thingAt 32 = .ok (.iinc 3 1, 3) := by decide +kernel
theorem dX11_thingAt_35 : decode cX11_thingAt 35 = .ok (.goto (-33), 3) := by decide +kernel
theorem dX11_thingAt_38 : decode cX11_thingAt 38 = .ok (.iconst (-1), 1) := by decide +kernel
theorem dX11_thingAt_39 : decode cX11_thingAt 39 = .ok (.ireturn, 1) := by decide +kernel
set_option maxRecDepth 100000 in
set_option maxHeartbeats 4000000 in
theorem X11_thingAt_L2_bok {g : Gm} {w : Wd} (C : Cx g w RX11 cX11_thingAt 4 (some .int)) {lv : Nat} (hlv : 0 < lv) {N : Nat} {r2 : Nat → Int → Int → Int → Option Int} {l0 : Nat} {l1 : Int} {l2 : Int} {l3 : Int} {m : Mem} {out : Int} (hr2 : ∀ l0 l1 l2 l3, r2 l0 l1 l2 l3 = some out → Jd g w 4 (rmL lv 0 0) (Qm g w (some (vI out)) m) 2 [some (vR l0), some (vI l1), some (vI l2), some (vI l3)] [] 312 m 0 0) (h : X11_thingAt_L2_b N m r2 l0 l1 l2 l3 = some out) : Jd g w 4 (rmL lv 0 0) (Qm g w (some (vI out)) m) 2 [some (vR l0), some (vI l1), some (vI l2), some (vI l3)] [] 312 m 0 0 := by
  unfold X11_thingAt_L2_b at h
  refine j_iload_n C dX11_thingAt_2 rfl ?_
  refine j_aload_n C dX11_thingAt_3 rfl ?_
  refine j_getR C dX11_thingAt_4 CF11 (by decide) fl_X11_81 rfl rfl h (fun t1 h => ?_)
  refine j_aload_n C dX11_thingAt_7 rfl ?_
  refine j_getI C dX11_thingAt_8 CF11 (by decide) fl_X11_51 rfl rfl h (fun t2 h => ?_)
  refine j_iald C dX11_thingAt_11 rfl h (fun t3 h => ?_)
  refine j_icmp_ge C 38 dX11_thingAt_12 rfl h (fun c7 h => ?_) (fun c7 h => ?_)
  · refine j_iconst C dX11_thingAt_38 rfl ?_
    exact j_ri C dX11_thingAt_39 rfl (Option.some.inj h).symm rfl
  · refine j_aload_n C dX11_thingAt_15 rfl ?_
    refine j_getR C dX11_thingAt_16 CF11 (by decide) fl_X11_170 rfl rfl h (fun t4 h => ?_)
    refine j_bipush C dX11_thingAt_19 rfl ?_
    refine j_iload_n C dX11_thingAt_21 rfl ?_
    refine j_imul C dX11_thingAt_22 ?_
    refine j_iload_n C dX11_thingAt_23 rfl ?_
    refine j_iadd C dX11_thingAt_24 ?_
    refine j_iald C dX11_thingAt_25 rfl h (fun t5 h => ?_)
    refine j_iload_n C dX11_thingAt_26 rfl ?_
    refine j_icmp_ne C 32 dX11_thingAt_27 rfl h (fun c6 h => ?_) (fun c6 h => ?_)
    · refine j_iinc (ls' := [some (vR _), some (vI _), some (vI _), some (vI _)]) C dX11_thingAt_32 rfl (by decide) rfl ?_
      refine j_goto C 2 dX11_thingAt_35 rfl ?_
      exact hr2 _ _ _ _ h
    · refine j_iload_n C dX11_thingAt_30 rfl ?_
      exact j_ri C dX11_thingAt_31 rfl (Option.some.inj h).symm rfl
set_option maxRecDepth 100000 in
set_option maxHeartbeats 4000000 in
theorem X11_thingAt_L2_ok {g : Gm} {w : Wd} (C : Cx g w RX11 cX11_thingAt 4 (some .int)) {lv : Nat} (hlv : 0 < lv) {N : Nat} {m : Mem} {out : Int} (f : Nat) : ∀ {l0 : Nat} {l1 : Int} {l2 : Int} {l3 : Int}, X11_thingAt_L2 N m f l0 l1 l2 l3 = some out → Jd g w 4 (rmL lv 0 0) (Qm g w (some (vI out)) m) 2 [some (vR l0), some (vI l1), some (vI l2), some (vI l3)] [] 312 m 0 0 := by
  induction f with
  | zero => intro l0 l1 l2 l3 h; exact none_ne (α := Int) h
  | succ f ih => intro l0 l1 l2 l3 h; exact X11_thingAt_L2_bok C hlv (fun l0 l1 l2 l3 h => ih h) h
set_option maxRecDepth 100000 in
set_option maxHeartbeats 4000000 in
theorem X11_thingAt_ct {N : Nat} {l0 : Nat} {l1 : Int} {l2 : Int} {m : Mem} {out : Int} (h : X11_thingAt N l0 l1 l2 m = some out) : shK l0 = 11 + 10 ∧ CT yX11_thingAt cX11_thingAt 4 (some .int) 1 0 0 [vR l0, vI l1, vI l2] 312 m (some (vI out)) 312 m := by
  unfold X11_thingAt at h
  obtain ⟨hK, h⟩ := ite_some h
  have hlv : 0 < 1 := by decide
  refine ⟨hK, CT.of (by decide +kernel) rfl (Nat.le_of_ble_eq_true rfl) (ls := [some (vR l0), some (vI l1), some (vI l2), none]) rfl fun g w C _ => ?_⟩
  refine j_iconst C dX11_thingAt_0 rfl ?_
  refine j_istore_n (ls' := [some (vR _), some (vI _), some (vI _), some (vI _)]) C dX11_thingAt_1 (by decide) rfl ?_
  exact X11_thingAt_L2_ok C hlv N h
theorem dX11_cisternAt_0 : decode cX11_cisternAt 0 = .ok (.iconst 0, 1) := by decide +kernel
theorem dX11_cisternAt_1 : decode cX11_cisternAt 1 = .ok (.istore_n 2, 1) := by decide +kernel
theorem dX11_cisternAt_2 : decode cX11_cisternAt 2 = .ok (.iload_n 2, 1) := by decide +kernel
theorem dX11_cisternAt_3 : decode cX11_cisternAt 3 = .ok (.aload_n 0, 1) := by decide +kernel
theorem dX11_cisternAt_4 : decode cX11_cisternAt 4 = .ok (.getfield 75, 3) := by decide +kernel
theorem dX11_cisternAt_7 : decode cX11_cisternAt 7 = .ok (.aload_n 0, 1) := by decide +kernel
theorem dX11_cisternAt_8 : decode cX11_cisternAt 8 = .ok (.getfield 51, 3) := by decide +kernel
theorem dX11_cisternAt_11 : decode cX11_cisternAt 11 = .ok (.iaload, 1) := by decide +kernel
theorem dX11_cisternAt_12 : decode cX11_cisternAt 12 = .ok (.if_icmp .ge 28, 3) := by decide +kernel
theorem dX11_cisternAt_15 : decode cX11_cisternAt 15 = .ok (.aload_n 0, 1) := by decide +kernel
theorem dX11_cisternAt_16 : decode cX11_cisternAt 16 = .ok (.getfield 78, 3) := by decide +kernel
theorem dX11_cisternAt_19 : decode cX11_cisternAt 19 = .ok (.iconst 5, 1) := by decide +kernel
theorem dX11_cisternAt_20 : decode cX11_cisternAt 20 = .ok (.aload_n 0, 1) := by decide +kernel
theorem dX11_cisternAt_21 : decode cX11_cisternAt 21 = .ok (.getfield 51, 3) := by decide +kernel
theorem dX11_cisternAt_24 : decode cX11_cisternAt 24 = .ok (.imul, 1) := by decide +kernel
theorem dX11_cisternAt_25 : decode cX11_cisternAt 25 = .ok (.iload_n 2, 1) := by decide +kernel
theorem dX11_cisternAt_26 : decode cX11_cisternAt 26 = .ok (.iadd, 1) := by decide +kernel
theorem dX11_cisternAt_27 : decode cX11_cisternAt 27 = .ok (.iaload, 1) := by decide +kernel
theorem dX11_cisternAt_28 : decode cX11_cisternAt 28 = .ok (.iload_n 1, 1) := by decide +kernel
theorem dX11_cisternAt_29 : decode cX11_cisternAt 29 = .ok (.if_icmp .ne 5, 3) := by decide +kernel
theorem dX11_cisternAt_32 : decode cX11_cisternAt 32 = .ok (.iload_n 2, 1) := by decide +kernel
theorem dX11_cisternAt_33 : decode cX11_cisternAt 33 = .ok (.ireturn, 1) := by decide +kernel
theorem dX11_cisternAt_34 : decode cX11_cisternAt 34 = .ok (.iinc 2 1, 3) := by decide +kernel
theorem dX11_cisternAt_37 : decode cX11_cisternAt 37 = .ok (.goto (-35), 3) := by decide +kernel
theorem dX11_cisternAt_40 : decode cX11_cisternAt 40 = .ok (.iconst (-1), 1) := by decide +kernel
theorem dX11_cisternAt_41 : decode cX11_cisternAt 41 = .ok (.ireturn, 1) := by decide +kernel
set_option maxRecDepth 100000 in
set_option maxHeartbeats 4000000 in
theorem X11_cisternAt_L2_bok {g : Gm} {w : Wd} (C : Cx g w RX11 cX11_cisternAt 3 (some .int)) {lv : Nat} (hlv : 0 < lv) {N : Nat} {r2 : Nat → Int → Int → Option Int} {l0 : Nat} {l1 : Int} {l2 : Int} {m : Mem} {out : Int} (hr2 : ∀ l0 l1 l2, r2 l0 l1 l2 = some out → Jd g w 3 (rmL lv 0 0) (Qm g w (some (vI out)) m) 2 [some (vR l0), some (vI l1), some (vI l2)] [] 312 m 0 0) (h : X11_cisternAt_L2_b N m r2 l0 l1 l2 = some out) : Jd g w 3 (rmL lv 0 0) (Qm g w (some (vI out)) m) 2 [some (vR l0), some (vI l1), some (vI l2)] [] 312 m 0 0 := by
  unfold X11_cisternAt_L2_b at h
  refine j_iload_n C dX11_cisternAt_2 rfl ?_
  refine j_aload_n C dX11_cisternAt_3 rfl ?_
  refine j_getR C dX11_cisternAt_4 CF11 (by decide) fl_X11_75 rfl rfl h (fun t1 h => ?_)
  refine j_aload_n C dX11_cisternAt_7 rfl ?_
  refine j_getI C dX11_cisternAt_8 CF11 (by decide) fl_X11_51 rfl rfl h (fun t2 h => ?_)
  refine j_iald C dX11_cisternAt_11 rfl h (fun t3 h => ?_)
  refine j_icmp_ge C 40 dX11_cisternAt_12 rfl h (fun c8 h => ?_) (fun c8 h => ?_)
  · refine j_iconst C dX11_cisternAt_40 rfl ?_
    exact j_ri C dX11_cisternAt_41 rfl (Option.some.inj h).symm rfl
  · refine j_aload_n C dX11_cisternAt_15 rfl ?_
    refine j_getR C dX11_cisternAt_16 CF11 (by decide) fl_X11_78 rfl rfl h (fun t4 h => ?_)
    refine j_iconst C dX11_cisternAt_19 rfl ?_
    refine j_aload_n C dX11_cisternAt_20 rfl ?_
    refine j_getI C dX11_cisternAt_21 CF11 (by decide) fl_X11_51 rfl rfl h (fun t5 h => ?_)
    refine j_imul C dX11_cisternAt_24 ?_
    refine j_iload_n C dX11_cisternAt_25 rfl ?_
    refine j_iadd C dX11_cisternAt_26 ?_
    refine j_iald C dX11_cisternAt_27 rfl h (fun t6 h => ?_)
    refine j_iload_n C dX11_cisternAt_28 rfl ?_
    refine j_icmp_ne C 34 dX11_cisternAt_29 rfl h (fun c7 h => ?_) (fun c7 h => ?_)
    · refine j_iinc (ls' := [some (vR _), some (vI _), some (vI _)]) C dX11_cisternAt_34 rfl (by decide) rfl ?_
      refine j_goto C 2 dX11_cisternAt_37 rfl ?_
      exact hr2 _ _ _ h
    · refine j_iload_n C dX11_cisternAt_32 rfl ?_
      exact j_ri C dX11_cisternAt_33 rfl (Option.some.inj h).symm rfl
set_option maxRecDepth 100000 in
set_option maxHeartbeats 4000000 in
theorem X11_cisternAt_L2_ok {g : Gm} {w : Wd} (C : Cx g w RX11 cX11_cisternAt 3 (some .int)) {lv : Nat} (hlv : 0 < lv) {N : Nat} {m : Mem} {out : Int} (f : Nat) : ∀ {l0 : Nat} {l1 : Int} {l2 : Int}, X11_cisternAt_L2 N m f l0 l1 l2 = some out → Jd g w 3 (rmL lv 0 0) (Qm g w (some (vI out)) m) 2 [some (vR l0), some (vI l1), some (vI l2)] [] 312 m 0 0 := by
  induction f with
  | zero => intro l0 l1 l2 h; exact none_ne (α := Int) h
  | succ f ih => intro l0 l1 l2 h; exact X11_cisternAt_L2_bok C hlv (fun l0 l1 l2 h => ih h) h
set_option maxRecDepth 100000 in
set_option maxHeartbeats 4000000 in
theorem X11_cisternAt_ct {N : Nat} {l0 : Nat} {l1 : Int} {m : Mem} {out : Int} (h : X11_cisternAt N l0 l1 m = some out) : shK l0 = 11 + 10 ∧ CT yX11_cisternAt cX11_cisternAt 3 (some .int) 1 0 0 [vR l0, vI l1] 312 m (some (vI out)) 312 m := by
  unfold X11_cisternAt at h
  obtain ⟨hK, h⟩ := ite_some h
  have hlv : 0 < 1 := by decide
  refine ⟨hK, CT.of (by decide +kernel) rfl (Nat.le_of_ble_eq_true rfl) (ls := [some (vR l0), some (vI l1), none]) rfl fun g w C _ => ?_⟩
  refine j_iconst C dX11_cisternAt_0 rfl ?_
  refine j_istore_n (ls' := [some (vR _), some (vI _), some (vI _)]) C dX11_cisternAt_1 (by decide) rfl ?_
  exact X11_cisternAt_L2_ok C hlv N h
theorem dX11_whatIn_0 : decode cX11_whatIn 0 = .ok (.aload_n 0, 1) := by decide +kernel
theorem dX11_whatIn_1 : decode cX11_whatIn 1 = .ok (.iconst 0, 1) := by decide +kernel
theorem dX11_whatIn_2 : decode cX11_whatIn 2 = .ok (.iload_n 1, 1) := by decide +kernel
theorem dX11_whatIn_3 : decode cX11_whatIn 3 = .ok (.invokevirtual 451, 3) := by decide +kernel
theorem dX11_whatIn_6 : decode cX11_whatIn 6 = .ok (.ifCond .eq 7, 3) := by decide +kernel
theorem dX11_whatIn_9 : decode cX11_whatIn 9 = .ok (.iconst 1, 1) := by decide +kernel
theorem dX11_whatIn_10 : decode cX11_whatIn 10 = .ok (.goto 43, 3) := by decide +kernel
theorem dX11_whatIn_13 : decode cX11_whatIn 13 = .ok (.aload_n 0, 1) := by decide +kernel
theorem dX11_whatIn_14 : decode cX11_whatIn 14 = .ok (.iload_n 1, 1) := by decide +kernel
theorem dX11_whatIn_15 : decode cX11_whatIn 15 = .ok (.invokevirtual 458, 3) := by decide +kernel
theorem dX11_whatIn_18 : decode cX11_whatIn 18 = .ok (.ifCond .eq 7, 3) := by decide +kernel
theorem dX11_whatIn_21 : decode cX11_whatIn 21 = .ok (.iconst 2, 1) := by decide +kernel
theorem dX11_whatIn_22 : decode cX11_whatIn 22 = .ok (.goto 31, 3) := by decide +kernel
theorem dX11_whatIn_25 : decode cX11_whatIn 25 = .ok (.aload_n 0, 1) := by decide +kernel
theorem dX11_whatIn_26 : decode cX11_whatIn 26 = .ok (.iconst 0, 1) := by decide +kernel
theorem dX11_whatIn_27 : decode cX11_whatIn 27 = .ok (.iload_n 1, 1) := by decide +kernel
theorem dX11_whatIn_28 : decode cX11_whatIn 28 = .ok (.invokevirtual 461, 3) := by decide +kernel
theorem dX11_whatIn_31 : decode cX11_whatIn 31 = .ok (.iconst (-1), 1) := by decide +kernel
theorem dX11_whatIn_32 : decode cX11_whatIn 32 = .ok (.if_icmp .eq 7, 3) := by decide +kernel
theorem dX11_whatIn_35 : decode cX11_whatIn 35 = .ok (.iconst 3, 1) := by decide +kernel
theorem dX11_whatIn_36 : decode cX11_whatIn 36 = .ok (.goto 17, 3) := by decide +kernel
theorem dX11_whatIn_39 : decode cX11_whatIn 39 = .ok (.aload_n 0, 1) := by decide +kernel
theorem dX11_whatIn_40 : decode cX11_whatIn 40 = .ok (.iload_n 1, 1) := by decide +kernel
theorem dX11_whatIn_41 : decode cX11_whatIn 41 = .ok (.invokevirtual 464, 3) := by decide +kernel
theorem dX11_whatIn_44 : decode cX11_whatIn 44 = .ok (.iconst (-1), 1) := by decide +kernel
theorem dX11_whatIn_45 : decode cX11_whatIn 45 = .ok (.if_icmp .eq 7, 3) := by decide +kernel
theorem dX11_whatIn_48 : decode cX11_whatIn 48 = .ok (.iconst 4, 1) := by decide +kernel
theorem dX11_whatIn_49 : decode cX11_whatIn 49 = .ok (.goto 4, 3) := by decide +kernel
theorem dX11_whatIn_52 : decode cX11_whatIn 52 = .ok (.iconst 0, 1) := by decide +kernel
theorem dX11_whatIn_53 : decode cX11_whatIn 53 = .ok (.ireturn, 1) := by decide +kernel
set_option maxRecDepth 100000 in
set_option maxHeartbeats 4000000 in
theorem X11_whatIn_ct {N : Nat} {l0 : Nat} {l1 : Int} {m : Mem} {out : Int} (h : X11_whatIn N l0 l1 m = some out) : shK l0 = 11 + 10 ∧ CT yX11_whatIn cX11_whatIn 2 (some .int) 2 0 0 [vR l0, vI l1] 312 m (some (vI out)) 312 m := by
  unfold X11_whatIn at h
  obtain ⟨hK, h⟩ := ite_some h
  have hlv : 1 < 2 := by decide
  refine ⟨hK, CT.of (by decide +kernel) rfl (Nat.le_of_ble_eq_true rfl) (ls := [some (vR l0), some (vI l1)]) rfl fun g w C _ => ?_⟩
  refine j_aload_n C dX11_whatIn_0 rfl ?_
  refine j_iconst C dX11_whatIn_1 rfl ?_
  refine j_iload_n C dX11_whatIn_2 rfl ?_
  obtain ⟨p1, ep1, h⟩ := bind_some h
  have qp1 := X11_isWall_ct ep1
  refine j_cVI C dX11_whatIn_3 vl_X11_451 CF11 rfl qp1.1 qp1.2 (by omega) rfl rfl (Nat.le_of_ble_eq_true rfl) ?_
  refine j_if_eq C 13 dX11_whatIn_6 rfl h (fun c8 h => ?_) (fun c8 h => ?_)
  · refine j_aload_n C dX11_whatIn_13 rfl ?_
    refine j_iload_n C dX11_whatIn_14 rfl ?_
    obtain ⟨p2, ep2, h⟩ := bind_some h
    have qp2 := X11_isHouse_ct ep2
    refine j_cVI C dX11_whatIn_15 vl_X11_458 CF11 rfl qp2.1 qp2.2 (by omega) rfl rfl (Nat.le_of_ble_eq_true rfl) ?_
    refine j_if_eq C 25 dX11_whatIn_18 rfl h (fun c7 h => ?_) (fun c7 h => ?_)
    · refine j_aload_n C dX11_whatIn_25 rfl ?_
      refine j_iconst C dX11_whatIn_26 rfl ?_
      refine j_iload_n C dX11_whatIn_27 rfl ?_
      obtain ⟨p3, ep3, h⟩ := bind_some h
      have qp3 := X11_thingAt_ct ep3
      refine j_cVI C dX11_whatIn_28 vl_X11_461 CF11 rfl qp3.1 qp3.2 (by omega) rfl rfl (Nat.le_of_ble_eq_true rfl) ?_
      refine j_iconst C dX11_whatIn_31 rfl ?_
      refine j_icmp_eq C 39 dX11_whatIn_32 rfl h (fun c6 h => ?_) (fun c6 h => ?_)
      · refine j_aload_n C dX11_whatIn_39 rfl ?_
        refine j_iload_n C dX11_whatIn_40 rfl ?_
        obtain ⟨p4, ep4, h⟩ := bind_some h
        have qp4 := X11_cisternAt_ct ep4
        refine j_cVI C dX11_whatIn_41 vl_X11_464 CF11 rfl qp4.1 qp4.2 (by omega) rfl rfl (Nat.le_of_ble_eq_true rfl) ?_
        refine j_iconst C dX11_whatIn_44 rfl ?_
        refine j_icmp_eq C 52 dX11_whatIn_45 rfl h (fun c5 h => ?_) (fun c5 h => ?_)
        · refine j_iconst C dX11_whatIn_52 rfl ?_
          exact j_ri C dX11_whatIn_53 rfl (Option.some.inj h).symm rfl
        · refine j_iconst C dX11_whatIn_48 rfl ?_
          refine j_goto C 53 dX11_whatIn_49 rfl ?_
          exact j_ri C dX11_whatIn_53 rfl (Option.some.inj h).symm rfl
      · refine j_iconst C dX11_whatIn_35 rfl ?_
        refine j_goto C 53 dX11_whatIn_36 rfl ?_
        exact j_ri C dX11_whatIn_53 rfl (Option.some.inj h).symm rfl
    · refine j_iconst C dX11_whatIn_21 rfl ?_
      refine j_goto C 53 dX11_whatIn_22 rfl ?_
      exact j_ri C dX11_whatIn_53 rfl (Option.some.inj h).symm rfl
  · refine j_iconst C dX11_whatIn_9 rfl ?_
    refine j_goto C 53 dX11_whatIn_10 rfl ?_
    exact j_ri C dX11_whatIn_53 rfl (Option.some.inj h).symm rfl
theorem dX11_isFree_0 : decode cX11_isFree 0 = .ok (.aload_n 0, 1) := by decide +kernel
theorem dX11_isFree_1 : decode cX11_isFree 1 = .ok (.iload_n 1, 1) := by decide +kernel
theorem dX11_isFree_2 : decode cX11_isFree 2 = .ok (.invokevirtual 535, 3) := by decide +kernel
theorem dX11_isFree_5 : decode cX11_isFree 5 = .ok (.ifCond .ne 7, 3) := by decide +kernel
theorem dX11_isFree_8 : decode cX11_isFree 8 = .ok (.iconst 1, 1) := by decide +kernel
theorem dX11_isFree_9 : decode cX11_isFree 9 = .ok (.goto 4, 3) := by decide +kernel
theorem dX11_isFree_12 : decode cX11_isFree 12 = .ok (.iconst 0, 1) := by decide +kernel
theorem dX11_isFree_13 : decode cX11_isFree 13 = .ok (.ireturn, 1) := by decide +kernel
set_option maxRecDepth 100000 in
set_option maxHeartbeats 4000000 in
theorem X11_isFree_ct {N : Nat} {l0 : Nat} {l1 : Int} {m : Mem} {out : Int} (h : X11_isFree N l0 l1 m = some out) : shK l0 = 11 + 10 ∧ CT yX11_isFree cX11_isFree 2 (some .boolean) 3 0 0 [vR l0, vI l1] 312 m (some (vI out)) 312 m := by
  unfold X11_isFree at h
  obtain ⟨hK, h⟩ := ite_some h
  have hlv : 2 < 3 := by decide
  refine ⟨hK, CT.of (by decide +kernel) rfl (Nat.le_of_ble_eq_true rfl) (ls := [some (vR l0), some (vI l1)]) rfl fun g w C _ => ?_⟩
  refine j_aload_n C dX11_isFree_0 rfl ?_
  refine j_iload_n C dX11_isFree_1 rfl ?_
  obtain ⟨p1, ep1, h⟩ := bind_some h
  have qp1 := X11_whatIn_ct ep1
  refine j_cVI C dX11_isFree_2 vl_X11_535 CF11 rfl qp1.1 qp1.2 (by omega) rfl rfl (Nat.le_of_ble_eq_true rfl) ?_
  refine j_if_ne C 12 dX11_isFree_5 rfl h (fun c2 h => ?_) (fun c2 h => ?_)
  · refine j_iconst C dX11_isFree_12 rfl ?_
    exact j_rz C dX11_isFree_13 rfl (retZ_some h) rfl
  · refine j_iconst C dX11_isFree_8 rfl ?_
    refine j_goto C 13 dX11_isFree_9 rfl ?_
    exact j_rz C dX11_isFree_13 rfl (retZ_some h) rfl
theorem dX11_canHang_0 : decode cX11_canHang 0 = .ok (.aload_n 0, 1) := by decide +kernel
theorem dX11_canHang_1 : decode cX11_canHang 1 = .ok (.getfield 170, 3) := by decide +kernel
theorem dX11_canHang_4 : decode cX11_canHang 4 = .ok (.iload_n 1, 1) := by decide +kernel
theorem dX11_canHang_5 : decode cX11_canHang 5 = .ok (.iaload, 1) := by decide +kernel
theorem dX11_canHang_6 : decode cX11_canHang 6 = .ok (.iload_n 2, 1) := by decide +kernel
theorem dX11_canHang_7 : decode cX11_canHang 7 = .ok (.if_icmp .eq 11, 3) := by decide +kernel
theorem dX11_canHang_10 : decode cX11_canHang 10 = .ok (.aload_n 0, 1) := by decide +kernel
theorem dX11_canHang_11 : decode cX11_canHang 11 = .ok (.iload_n 2, 1) := by decide +kernel
theorem dX11_canHang_12 : decode cX11_canHang 12 = .ok (.invokevirtual 559, 3) := by decide +kernel
theorem dX11_canHang_15 : decode cX11_canHang 15 = .ok (.ifCond .eq 7, 3) := by decide +kernel
theorem dX11_canHang_18 : decode cX11_canHang 18 = .ok (.iconst 1, 1) := by decide +kernel
theorem dX11_canHang_19 : decode cX11_canHang 19 = .ok (.goto 4, 3) := by decide +kernel
theorem dX11_canHang_22 : decode cX11_canHang 22 = .ok (.iconst 0, 1) := by decide +kernel
theorem dX11_canHang_23 : decode cX11_canHang 23 = .ok (.ireturn, 1) := by decide +kernel
set_option maxRecDepth 100000 in
set_option maxHeartbeats 4000000 in
theorem X11_canHang_J18_ok {g : Gm} {w : Wd} (C : Cx g w RX11 cX11_canHang 3 (some .boolean)) {lv : Nat} (hlv : 3 < lv) {N : Nat}  {m : Mem} {out : Int} (h : X11_canHang_J18 N m = some out) : Jd g w 3 (rmL lv 0 0) (Qm g w (some (vI out)) m) 18 [none, none, none] [] 312 m 0 0 := by
  unfold X11_canHang_J18 at h
  refine j_iconst C dX11_canHang_18 rfl ?_
  refine j_goto C 23 dX11_canHang_19 rfl ?_
  exact j_rz C dX11_canHang_23 rfl (retZ_some h) rfl
set_option maxRecDepth 100000 in
set_option maxHeartbeats 4000000 in
theorem X11_canHang_ct {N : Nat} {l0 : Nat} {l1 : Int} {l2 : Int} {m : Mem} {out : Int} (h : X11_canHang N l0 l1 l2 m = some out) : shK l0 = 11 + 10 ∧ CT yX11_canHang cX11_canHang 3 (some .boolean) 4 0 0 [vR l0, vI l1, vI l2] 312 m (some (vI out)) 312 m := by
  unfold X11_canHang at h
  obtain ⟨hK, h⟩ := ite_some h
  have hlv : 3 < 4 := by decide
  refine ⟨hK, CT.of (by decide +kernel) rfl (Nat.le_of_ble_eq_true rfl) (ls := [some (vR l0), some (vI l1), some (vI l2)]) rfl fun g w C _ => ?_⟩
  refine j_aload_n C dX11_canHang_0 rfl ?_
  refine j_getR C dX11_canHang_1 CF11 (by decide) fl_X11_170 rfl rfl h (fun t1 h => ?_)
  refine j_iload_n C dX11_canHang_4 rfl ?_
  refine j_iald C dX11_canHang_5 rfl h (fun t2 h => ?_)
  refine j_iload_n C dX11_canHang_6 rfl ?_
  refine j_icmp_eq C 18 dX11_canHang_7 rfl h (fun c5 h => ?_) (fun c5 h => ?_)
  · refine j_mask [false, false, false] (ls' := [none, none, none]) rfl ?_
    exact X11_canHang_J18_ok C hlv h
  · refine j_aload_n C dX11_canHang_10 rfl ?_
    refine j_iload_n C dX11_canHang_11 rfl ?_
    obtain ⟨p3, ep3, h⟩ := bind_some h
    have qp3 := X11_isFree_ct ep3
    refine j_cVI C dX11_canHang_12 vl_X11_559 CF11 rfl qp3.1 qp3.2 (by omega) rfl rfl (Nat.le_of_ble_eq_true rfl) ?_
    refine j_if_eq C 22 dX11_canHang_15 rfl h (fun c4 h => ?_) (fun c4 h => ?_)
    · refine j_iconst C dX11_canHang_22 rfl ?_
      exact j_rz C dX11_canHang_23 rfl (retZ_some h) rfl
    · refine j_mask [false, false, false] (ls' := [none, none, none]) rfl ?_
      exact X11_canHang_J18_ok C hlv h
theorem dX11_heightOf_0 : decode cX11_heightOf 0 = .ok (.aload_n 0, 1) := by decide +kernel
theorem dX11_heightOf_1 : decode cX11_heightOf 1 = .ok (.getfield 60, 3) := by decide +kernel
theorem dX11_heightOf_4 : decode cX11_heightOf 4 = .ok (.bipush 42, 2) := by decide +kernel
theorem dX11_heightOf_6 : decode cX11_heightOf 6 = .ok (.aload_n 0, 1) := by decide +kernel
theorem dX11_heightOf_7 : decode cX11_heightOf 7 = .ok (.getfield 51, 3) := by decide +kernel
theorem dX11_heightOf_10 : decode cX11_heightOf 10 = .ok (.imul, 1) := by decide +kernel
theorem dX11_heightOf_11 : decode cX11_heightOf 11 = .ok (.iload_n 1, 1) := by decide +kernel
theorem dX11_heightOf_12 : decode cX11_heightOf 12 = .ok (.iadd, 1) := by decide +kernel
theorem dX11_heightOf_13 : decode cX11_heightOf 13 = .ok (.iaload, 1) := by decide +kernel
theorem dX11_heightOf_14 : decode cX11_heightOf 14 = .ok (.ireturn, 1) := by decide +kernel
set_option maxRecDepth 100000 in
set_option maxHeartbeats 4000000 in
theorem X11_heightOf_ct {l0 : Nat} {l1 : Int} {m : Mem} {out : Int} (h : X11_heightOf l0 l1 m = some out) : shK l0 = 11 + 10 ∧ CT yX11_heightOf cX11_heightOf 2 (some .int) 1 0 0 [vR l0, vI l1] 312 m (some (vI out)) 312 m := by
  unfold X11_heightOf at h
  obtain ⟨hK, h⟩ := ite_some h
  have hlv : 0 < 1 := by decide
  refine ⟨hK, CT.of (by decide +kernel) rfl (Nat.le_of_ble_eq_true rfl) (ls := [some (vR l0), some (vI l1)]) rfl fun g w C _ => ?_⟩
  refine j_aload_n C dX11_heightOf_0 rfl ?_
  refine j_getR C dX11_heightOf_1 CF11 (by decide) fl_X11_60 rfl rfl h (fun t1 h => ?_)
  refine j_bipush C dX11_heightOf_4 rfl ?_
  refine j_aload_n C dX11_heightOf_6 rfl ?_
  refine j_getI C dX11_heightOf_7 CF11 (by decide) fl_X11_51 rfl rfl h (fun t2 h => ?_)
  refine j_imul C dX11_heightOf_10 ?_
  refine j_iload_n C dX11_heightOf_11 rfl ?_
  refine j_iadd C dX11_heightOf_12 ?_
  refine j_iald C dX11_heightOf_13 rfl h (fun t3 h => ?_)
  exact j_ri C dX11_heightOf_14 rfl (Option.some.inj h).symm rfl
theorem dX11_next_0 : decode cX11_next 0 = .ok (.iload_n 1, 1) := by decide +kernel
theorem dX11_next_1 : decode cX11_next 1 = .ok (.aload_n 0, 1) := by decide +kernel
theorem dX11_next_2 : decode cX11_next 2 = .ok (.getfield 54, 3) := by decide +kernel
theorem dX11_next_5 : decode cX11_next 5 = .ok (.aload_n 0, 1) := by decide +kernel
theorem dX11_next_6 : decode cX11_next 6 = .ok (.getfield 51, 3) := by decide +kernel
theorem dX11_next_9 : decode cX11_next 9 = .ok (.iaload, 1) := by decide +kernel
theorem dX11_next_10 : decode cX11_next 10 = .ok (.irem, 1) := by decide +kernel
theorem dX11_next_11 : decode cX11_next 11 = .ok (.iload_n 2, 1) := by decide +kernel
theorem dX11_next_12 : decode cX11_next 12 = .ok (.iconst 1, 1) := by decide +kernel
theorem dX11_next_13 : decode cX11_next 13 = .ok (.if_icmp .ne 7, 3) := by decide +kernel
theorem dX11_next_16 : decode cX11_next 16 = .ok (.iconst 1, 1) := by decide +kernel
theorem dX11_next_17 : decode cX11_next 17 = .ok (.goto 13, 3) := by decide +kernel
theorem dX11_next_20 : decode cX11_next 20 = .ok (.iload_n 2, 1) := by decide +kernel
theorem dX11_next_21 : decode cX11_next 21 = .ok (.iconst 3, 1) := by decide +kernel
theorem dX11_next_22 : decode cX11_next 22 = .ok (.if_icmp .ne 7, 3) := by decide +kernel
theorem dX11_next_25 : decode cX11_next 25 = .ok (.iconst (-1), 1) := by decide +kernel
theorem dX11_next_26 : decode cX11_next 26 = .ok (.goto 4, 3) := by decide +kernel
theorem dX11_next_29 : decode cX11_next 29 = .ok (.iconst 0, 1) := by decide +kernel
theorem dX11_next_30 : decode cX11_next 30 = .ok (.iadd, 1) := by decide +kernel
theorem dX11_next_31 : decode cX11_next 31 = .ok (.istore_n 3, 1) := by decide +kernel
theorem dX11_next_32 : decode cX11_next 32 = .ok (.iload_n 1, 1) := by decide +kernel
theorem dX11_next_33 : decode cX11_next 33 = .ok (.aload_n 0, 1) := by decide +kernel
theorem dX11_next_34 : decode cX11_next 34 = .ok (.getfield 54, 3) := by decide +kernel
theorem dX11_next_37 : decode cX11_next 37 = .ok (.aload_n 0, 1) := by decide +kernel
theorem dX11_next_38 : decode cX11_next 38 = .ok (.getfield 51, 3) := by decide +kernel
theorem dX11_next_41 : decode cX11_next 41 = .ok (.iaload, 1) := by decide +kernel
theorem dX11_next_42 : decode cX11_next 42 = .ok (.idiv, 1) := by decide +kernel
theorem dX11_next_43 : decode cX11_next 43 = .ok (.iload_n 2, 1) := by decide +kernel
theorem dX11_next_44 : decode cX11_next 44 = .ok (.ifCond .ne 7, 3) := by decide +kernel
theorem dX11_next_47 : decode cX11_next 47 = .ok (.iconst (-1), 1) := by decide +kernel
theorem dX11_next_48 : decode cX11_next 48 = .ok (.goto 13, 3) := by decide +kernel
theorem dX11_next_51 : decode cX11_next 51 = .ok (.iload_n 2, 1) := by decide +kernel
theorem dX11_next_52 : decode cX11_next 52 = .ok (.iconst 2, 1) := by decide +kernel
theorem dX11_next_53 : decode cX11_next 53 = .ok (.if_icmp .ne 7, 3) := by decide +kernel
theorem dX11_next_56 : decode cX11_next 56 = .ok (.iconst 1, 1) := by decide +kernel
theorem dX11_next_57 : decode cX11_next 57 = .ok (.goto 4, 3) := by decide +kernel
theorem dX11_next_60 : decode cX11_next 60 = .ok (.iconst 0, 1) := by decide +kernel
theorem dX11_next_61 : decode cX11_next 61 = .ok (.iadd, 1) := by decide +kernel
theorem dX11_next_62 : decode cX11_next 62 = .ok (.istore 4, 2) := by decide +kernel
theorem dX11_next_64 : decode cX11_next 64 = .ok (.iload_n 3, 1) := by decide +kernel
theorem dX11_next_65 : decode cX11_next 65 = .ok (.iconst 0, 1) := by decide +kernel
theorem dX11_next_66 : decode cX11_next 66 = .ok (.aload_n 0, 1) := by decide +kernel
theorem dX11_next_67 : decode cX11_next 67 = .ok (.getfield 54, 3) := by decide +kernel
theorem dX11_next_70 : decode cX11_next 70 = .ok (.aload_n 0, 1) := by decide +kernel
theorem dX11_next_71 : decode cX11_next 71 = .ok (.getfield 51, 3) := by decide +kernel
theorem dX11_next_74 : decode cX11_next 74 = .ok (.iaload, 1) := by decide +kernel
theorem dX11_next_75 : decode cX11_next 75 = .ok (.iconst 1, 1) := by decide +kernel
theorem dX11_next_76 : decode cX11_next 76 = .ok (.isub, 1) := by decide +kernel
theorem dX11_next_77 : decode cX11_next 77 = .ok (.invokestatic 334, 3) := by decide +kernel
theorem dX11_next_80 : decode cX11_next 80 = .ok (.ifCond .eq 40, 3) := by decide +kernel
theorem dX11_next_83 : decode cX11_next 83 = .ok (.iload 4, 2) := by decide +kernel
theorem dX11_next_85 : decode cX11_next 85 = .ok (.iconst 0, 1) := by decide +kernel
theorem dX11_next_86 : decode cX11_next 86 = .ok (.aload_n 0, 1) := by decide +kernel
theorem dX11_next_87 : decode cX11_next 87 = .ok (.getfield 57, 3) := by decide +kernel
theorem dX11_next_90 : decode cX11_next 90 = .ok (.aload_n 0, 1) := by decide +kernel
theorem dX11_next_91 : decode cX11_next 91 = .ok (.getfield 51, 3) := by decide +kernel
theorem dX11_next_94 : decode cX11_next 94 = .ok (.iaload, 1) := by decide +kernel
theorem dX11_next_95 : decode cX11_next 95 = .ok (.iconst 1, 1) := by decide +kernel
theorem dX11_next_96 : decode cX11_next 96 = .ok (.isub, 1) := by decide +kernel
theorem dX11_next_97 : decode cX11_next 97 = .ok (.invokestatic 334, 3) := by decide +kernel
theorem dX11_next_100 : decode cX11_next 100 = .ok (.ifCond .eq 20, 3) := by decide +kernel
theorem dX11_next_103 : decode cX11_next 103 = .ok (.iload 4, 2) := by decide +kernel
theorem dX11_next_105 : decode cX11_next 105 = .ok (.aload_n 0, 1) := by decide +kernel
theorem dX11_next_106 : decode cX11_next 106 = .ok (.getfield 54, 3) := by decide +kernel
theorem dX11_next_109 : decode cX11_next 109 = .ok (.aload_n 0, 1) := by decide +kernel
theorem dX11_next_110 : decode cX11_next 110 = .ok (.getfield 51, 3) := by decide +kernel
theorem dX11_next_113 : decode cX11_next 113 = .ok (.iaload, 1) := by decide +kernel
theorem dX11_next_114 : decode cX11_next 114 = .ok (.imul, 1) := by decide +kernel
theorem dX11_next_115 : decode cX11_next 115 = .ok (.iload_n 3, 1) := by decide +kernel
theorem dX11_next_116 : decode cX11_next 116 = .ok (.iadd, 1) := by decide +kernel
theorem dX11_next_117 : decode cX11_next 117 = .ok (.goto 4, 3) := by decide +kernel
theorem dX11_next_120 : decode cX11_next 120 = .ok (.iconst (-1), 1) := by decide +kernel
theorem dX11_next_121 : decode cX11_next 121 = .ok (.ireturn, 1) := by decide +kernel
set_option maxRecDepth 100000 in
set_option maxHeartbeats 4000000 in
theorem X11_next_J61_ok {g : Gm} {w : Wd} (C : Cx g w RX11 cX11_next 5 (some .int)) {lv : Nat} (hlv : 1 < lv) {l0 : Nat} {l3 : Int} {s0 : Int} {s1 : Int} {m : Mem} {out : Int} (h : X11_next_J61 l0 l3 s0 s1 m = some out) : Jd g w 5 (rmL lv 0 0) (Qm g w (some (vI out)) m) 61 [some (vR l0), none, none, some (vI l3), none] [vI s1, vI s0] 312 m 0 0 := by
  unfold X11_next_J61 at h
  refine j_iadd C dX11_next_61 ?_
  refine j_istore (ls' := [some (vR _), none, none, some (vI _), some (vI _)]) C dX11_next_62 (by decide) rfl ?_
  refine j_iload_n C dX11_next_64 rfl ?_
  refine j_iconst C dX11_next_65 rfl ?_
  refine j_aload_n C dX11_next_66 rfl ?_
  refine j_getR C dX11_next_67 CF11 (by decide) fl_X11_54 rfl rfl h (fun t9 h => ?_)
  refine j_aload_n C dX11_next_70 rfl ?_
  refine j_getI C dX11_next_71 CF11 (by decide) fl_X11_51 rfl rfl h (fun t10 h => ?_)
  refine j_iald C dX11_next_74 rfl h (fun t11 h => ?_)
  refine j_iconst C dX11_next_75 rfl ?_
  refine j_isub C dX11_next_76 ?_
  obtain ⟨p12, ep12, h⟩ := bind_some h
  have qp12 := X11_is_ct ep12
  refine j_cSI C dX11_next_77 sl_X11_334 qp12 (by omega) rfl rfl (Nat.le_of_ble_eq_true rfl) ?_
  refine j_if_eq C 120 dX11_next_80 rfl h (fun c21 h => ?_) (fun c21 h => ?_)
  · refine j_iconst C dX11_next_120 rfl ?_
    exact j_ri C dX11_next_121 rfl (Option.some.inj h).symm rfl
  · refine j_iload C dX11_next_83 rfl ?_
    refine j_iconst C dX11_next_85 rfl ?_
    refine j_aload_n C dX11_next_86 rfl ?_
    refine j_getR C dX11_next_87 CF11 (by decide) fl_X11_57 rfl rfl h (fun t13 h => ?_)
    refine j_aload_n C dX11_next_90 rfl ?_
    refine j_getI C dX11_next_91 CF11 (by decide) fl_X11_51 rfl rfl h (fun t14 h => ?_)
    refine j_iald C dX11_next_94 rfl h (fun t15 h => ?_)
    refine j_iconst C dX11_next_95 rfl ?_
    refine j_isub C dX11_next_96 ?_
    obtain ⟨p16, ep16, h⟩ := bind_some h
    have qp16 := X11_is_ct ep16
    refine j_cSI C dX11_next_97 sl_X11_334 qp16 (by omega) rfl rfl (Nat.le_of_ble_eq_true rfl) ?_
    refine j_if_eq C 120 dX11_next_100 rfl h (fun c20 h => ?_) (fun c20 h => ?_)
    · refine j_iconst C dX11_next_120 rfl ?_
      exact j_ri C dX11_next_121 rfl (Option.some.inj h).symm rfl
    · refine j_iload C dX11_next_103 rfl ?_
      refine j_aload_n C dX11_next_105 rfl ?_
      refine j_getR C dX11_next_106 CF11 (by decide) fl_X11_54 rfl rfl h (fun t17 h => ?_)
      refine j_aload_n C dX11_next_109 rfl ?_
      refine j_getI C dX11_next_110 CF11 (by decide) fl_X11_51 rfl rfl h (fun t18 h => ?_)
      refine j_iald C dX11_next_113 rfl h (fun t19 h => ?_)
      refine j_imul C dX11_next_114 ?_
      refine j_iload_n C dX11_next_115 rfl ?_
      refine j_iadd C dX11_next_116 ?_
      refine j_goto C 121 dX11_next_117 rfl ?_
      exact j_ri C dX11_next_121 rfl (Option.some.inj h).symm rfl
set_option maxRecDepth 100000 in
set_option maxHeartbeats 4000000 in
theorem X11_next_J30_ok {g : Gm} {w : Wd} (C : Cx g w RX11 cX11_next 5 (some .int)) {lv : Nat} (hlv : 1 < lv) {l0 : Nat} {l1 : Int} {l2 : Int} {s0 : Int} {s1 : Int} {m : Mem} {out : Int} (h : X11_next_J30 l0 l1 l2 s0 s1 m = some out) : Jd g w 5 (rmL lv 0 0) (Qm g w (some (vI out)) m) 30 [some (vR l0), some (vI l1), some (vI l2), none, none] [vI s1, vI s0] 312 m 0 0 := by
  unfold X11_next_J30 at h
  refine j_iadd C dX11_next_30 ?_
  refine j_istore_n (ls' := [some (vR _), some (vI _), some (vI _), some (vI _), none]) C dX11_next_31 (by decide) rfl ?_
  refine j_iload_n C dX11_next_32 rfl ?_
  refine j_aload_n C dX11_next_33 rfl ?_
  refine j_getR C dX11_next_34 CF11 (by decide) fl_X11_54 rfl rfl h (fun t5 h => ?_)
  refine j_aload_n C dX11_next_37 rfl ?_
  refine j_getI C dX11_next_38 CF11 (by decide) fl_X11_51 rfl rfl h (fun t6 h => ?_)
  refine j_iald C dX11_next_41 rfl h (fun t7 h => ?_)
  obtain ⟨c8, h⟩ := ite_none h
  refine j_idiv C dX11_next_42 c8 ?_
  refine j_iload_n C dX11_next_43 rfl ?_
  refine j_if_ne C 51 dX11_next_44 rfl h (fun c23 h => ?_) (fun c23 h => ?_)
  · refine j_iload_n C dX11_next_51 rfl ?_
    refine j_iconst C dX11_next_52 rfl ?_
    refine j_icmp_ne C 60 dX11_next_53 rfl h (fun c22 h => ?_) (fun c22 h => ?_)
    · refine j_iconst C dX11_next_60 rfl ?_
      refine j_mask [true, false, false, true, false] (ls' := [some (vR _), none, none, some (vI _), none]) rfl ?_
      exact X11_next_J61_ok C hlv h
    · refine j_iconst C dX11_next_56 rfl ?_
      refine j_goto C 61 dX11_next_57 rfl ?_
      refine j_mask [true, false, false, true, false] (ls' := [some (vR _), none, none, some (vI _), none]) rfl ?_
      exact X11_next_J61_ok C hlv h
  · refine j_iconst C dX11_next_47 rfl ?_
    refine j_goto C 61 dX11_next_48 rfl ?_
    refine j_mask [true, false, false, true, false] (ls' := [some (vR _), none, none, some (vI _), none]) rfl ?_
    exact X11_next_J61_ok C hlv h
set_option maxRecDepth 100000 in
set_option maxHeartbeats 4000000 in
theorem X11_next_ct {l0 : Nat} {l1 : Int} {l2 : Int} {m : Mem} {out : Int} (h : X11_next l0 l1 l2 m = some out) : shK l0 = 11 + 10 ∧ CT yX11_next cX11_next 5 (some .int) 2 0 0 [vR l0, vI l1, vI l2] 312 m (some (vI out)) 312 m := by
  unfold X11_next at h
  obtain ⟨hK, h⟩ := ite_some h
  have hlv : 1 < 2 := by decide
  refine ⟨hK, CT.of (by decide +kernel) rfl (Nat.le_of_ble_eq_true rfl) (ls := [some (vR l0), some (vI l1), some (vI l2), none, none]) rfl fun g w C _ => ?_⟩
  refine j_iload_n C dX11_next_0 rfl ?_
  refine j_aload_n C dX11_next_1 rfl ?_
  refine j_getR C dX11_next_2 CF11 (by decide) fl_X11_54 rfl rfl h (fun t1 h => ?_)
  refine j_aload_n C dX11_next_5 rfl ?_
  refine j_getI C dX11_next_6 CF11 (by decide) fl_X11_51 rfl rfl h (fun t2 h => ?_)
  refine j_iald C dX11_next_9 rfl h (fun t3 h => ?_)
  obtain ⟨c4, h⟩ := ite_none h
  refine j_irem C dX11_next_10 c4 ?_
  refine j_iload_n C dX11_next_11 rfl ?_
  refine j_iconst C dX11_next_12 rfl ?_
  refine j_icmp_ne C 20 dX11_next_13 rfl h (fun c25 h => ?_) (fun c25 h => ?_)
  · refine j_iload_n C dX11_next_20 rfl ?_
    refine j_iconst C dX11_next_21 rfl ?_
    refine j_icmp_ne C 29 dX11_next_22 rfl h (fun c24 h => ?_) (fun c24 h => ?_)
    · refine j_iconst C dX11_next_29 rfl ?_
      exact X11_next_J30_ok C hlv h
    · refine j_iconst C dX11_next_25 rfl ?_
      refine j_goto C 30 dX11_next_26 rfl ?_
      exact X11_next_J30_ok C hlv h
  · refine j_iconst C dX11_next_16 rfl ?_
    refine j_goto C 30 dX11_next_17 rfl ?_
    exact X11_next_J30_ok C hlv h
theorem dX11_flowsTo_0 : decode cX11_flowsTo 0 = .ok (.iconst (-1), 1) := by decide +kernel
theorem dX11_flowsTo_1 : decode cX11_flowsTo 1 = .ok (.istore_n 3, 1) := by decide +kernel
theorem dX11_flowsTo_2 : decode cX11_flowsTo 2 = .ok (.iconst 0, 1) := by decide +kernel
theorem dX11_flowsTo_3 : decode cX11_flowsTo 3 = .ok (.istore 4, 2) := by decide +kernel
theorem dX11_flowsTo_5 : decode cX11_flowsTo 5 = .ok (.iload 4, 2) := by decide +kernel
theorem dX11_flowsTo_7 : decode cX11_flowsTo 7 = .ok (.iconst 4, 1) := by decide +kernel
theorem dX11_flowsTo_8 : decode cX11_flowsTo 8 = .ok (.if_icmp .ge 73, 3) := by decide +kernel
theorem dX11_flowsTo_11 : decode cX11_flowsTo 11 = .ok (.aload_n 0, 1) := by decide +kernel
theorem dX11_flowsTo_12 : decode cX11_flowsTo 12 = .ok (.iload_n 2, 1) := by decide +kernel
theorem dX11_flowsTo_13 : decode cX11_flowsTo 13 = .ok (.iload 4, 2) := by decide +kernel
theorem dX11_flowsTo_15 : decode cX11_flowsTo 15 = .ok (.invokevirtual 455, 3) := by decide +kernel
theorem dX11_flowsTo_18 : decode cX11_flowsTo 18 = .ok (.istore 5, 2) := by decide +kernel
theorem dX11_flowsTo_20 : decode cX11_flowsTo 20 = .ok (.iload 5, 2) := by decide +kernel
theorem dX11_flowsTo_22 : decode cX11_flowsTo 22 = .ok (.iconst (-1), 1) := by decide +kernel
theorem dX11_flowsTo_23 : decode cX11_flowsTo 23 = .ok (.if_icmp .eq 52, 3) := by decide +kernel
theorem dX11_flowsTo_26 : decode cX11_flowsTo 26 = .ok (.aload_n 0, 1) := by decide +kernel
theorem dX11_flowsTo_27 : decode cX11_flowsTo 27 = .ok (.iload_n 1, 1) := by decide +kernel
theorem dX11_flowsTo_28 : decode cX11_flowsTo 28 = .ok (.iload 5, 2) := by decide +kernel
theorem dX11_flowsTo_30 : decode cX11_flowsTo 30 = .ok (.invokevirtual 451, 3) := by decide +kernel
theorem dX11_flowsTo_33 : decode cX11_flowsTo 33 = .ok (.ifCond .ne 42, 3) := by decide +kernel
theorem dX11_flowsTo_36 : decode cX11_flowsTo 36 = .ok (.aload_n 0, 1) := by decide +kernel
theorem dX11_flowsTo_37 : decode cX11_flowsTo 37 = .ok (.iload 5, 2) := by decide +kernel
theorem dX11_flowsTo_39 : decode cX11_flowsTo 39 = .ok (.invokevirtual 476, 3) := by decide +kernel
theorem dX11_flowsTo_42 : decode cX11_flowsTo 42 = .ok (.aload_n 0, 1) := by decide +kernel
theorem dX11_flowsTo_43 : decode cX11_flowsTo 43 = .ok (.iload_n 2, 1) := by decide +kernel
theorem dX11_flowsTo_44 : decode cX11_flowsTo 44 = .ok (.invokevirtual 476, 3) := by decide +kernel
theorem dX11_flowsTo_47 : decode cX11_flowsTo 47 = .ok (.if_icmp .lt 6, 3) := by decide +kernel
theorem dX11_flowsTo_50 : decode cX11_flowsTo 50 = .ok (.goto 25, 3) := by decide +kernel
theorem dX11_flowsTo_53 : decode cX11_flowsTo 53 = .ok (.iload_n 3, 1) := by decide +kernel
theorem dX11_flowsTo_54 : decode cX11_flowsTo 54 = .ok (.iconst (-1), 1) := by decide +kernel
theorem dX11_flowsTo_55 : decode cX11_flowsTo 55 = .ok (.if_icmp .eq 17, 3) := by decide +kernel
theorem dX11_flowsTo_58 : decode cX11_flowsTo 58 = .ok (.aload_n 0, 1) := by decide +kernel
theorem dX11_flowsTo_59 : decode cX11_flowsTo 59 = .ok (.iload 5, 2) := by decide +kernel
theorem dX11_flowsTo_61 : decode cX11_flowsTo 61 = .ok (.invokevirtual 476, 3) := by decide +kernel
theorem dX11_flowsTo_64 : decode cX11_flowsTo 64 = .ok (.aload_n 0, 1) := by decide +kernel
theorem dX11_flowsTo_65 : decode cX11_flowsTo 65 = .ok (.iload_n 3, 1) := by decide +kernel
theorem dX11_flowsTo_66 : decode cX11_flowsTo 66 = .ok (.invokevirtual 476, 3) := by decide +kernel
theorem dX11_flowsTo_69 : decode cX11_flowsTo 69 = .ok (.if_icmp .ge 6, 3) := by decide +kernel
theorem dX11_flowsTo_72 : decode cX11_flowsTo 72 = .ok (.iload 5, 2) := by decide +kernel
theorem dX11_flowsTo_74 : decode cX11_flowsTo 74 = .ok (.istore_n 3, 1) := by decide +kernel
theorem dX11_flowsTo_75 : decode cX11_flowsTo 75 = .ok (.iinc 4 1, 3) := by decide +kernel
theorem dX11_flowsTo_78 : decode cX11_flowsTo 78 = .ok (.goto (-73), 3) := by decide +kernel
theorem dX11_flowsTo_81 : decode cX11_flowsTo 81 = .ok (.iload_n 3, 1) := by decide +kernel
theorem dX11_flowsTo_82 : decode cX11_flowsTo 82 = .ok (.ireturn, 1) := by decide +kernel
set_option maxRecDepth 100000 in
set_option maxHeartbeats 4000000 in
theorem X11_flowsTo_J75_ok {g : Gm} {w : Wd} (C : Cx g w RX11 cX11_flowsTo 6 (some .int)) {lv : Nat} (hlv : 2 < lv) {N : Nat} {r5 : Nat → Int → Int → Int → Int → Option Int } {l0 : Nat} {l1 : Int} {l2 : Int} {l3 : Int} {l4 : Int} {m : Mem} {out : Int} (hr5 : ∀ l0 l1 l2 l3 l4, r5 l0 l1 l2 l3 l4 = some out → Jd g w 6 (rmL lv 0 0) (Qm g w (some (vI out)) m) 5 [some (vR l0), some (vI l1), some (vI l2), some (vI l3), some (vI l4), none] [] 312 m 0 0) (h : X11_flowsTo_J75 N r5 l0 l1 l2 l3 l4 m = some out) : Jd g w 6 (rmL lv 0 0) (Qm g w (some (vI out)) m) 75 [some (vR l0), some (vI l1), some (vI l2), some (vI l3), some (vI l4), none] [] 312 m 0 0 := by
  unfold X11_flowsTo_J75 at h
  refine j_iinc (ls' := [some (vR _), some (vI _), some (vI _), some (vI _), some (vI _), none]) C dX11_flowsTo_75 rfl (by decide) rfl ?_
  refine j_goto C 5 dX11_flowsTo_78 rfl ?_
  exact hr5 _ _ _ _ _ h
set_option maxRecDepth 100000 in
set_option maxHeartbeats 4000000 in
theorem X11_flowsTo_J72_ok {g : Gm} {w : Wd} (C : Cx g w RX11 cX11_flowsTo 6 (some .int)) {lv : Nat} (hlv : 2 < lv) {N : Nat} {r5 : Nat → Int → Int → Int → Int → Option Int } {l0 : Nat} {l1 : Int} {l2 : Int} {l4 : Int} {l5 : Int} {m : Mem} {out : Int} (hr5 : ∀ l0 l1 l2 l3 l4, r5 l0 l1 l2 l3 l4 = some out → Jd g w 6 (rmL lv 0 0) (Qm g w (some (vI out)) m) 5 [some (vR l0), some (vI l1), some (vI l2), some (vI l3), some (vI l4), none] [] 312 m 0 0) (h : X11_flowsTo_J72 N r5 l0 l1 l2 l4 l5 m = some out) : Jd g w 6 (rmL lv 0 0) (Qm g w (some (vI out)) m) 72 [some (vR l0), some (vI l1), some (vI l2), none, some (vI l4), some (vI l5)] [] 312 m 0 0 := by
  unfold X11_flowsTo_J72 at h
  refine j_iload C dX11_flowsTo_72 rfl ?_
  refine j_istore_n (ls' := [some (vR _), some (vI _), some (vI _), some (vI _), some (vI _), some (vI _)]) C dX11_flowsTo_74 (by decide) rfl ?_
  refine j_mask [true, true, true, true, true, false] (ls' := [some (vR _), some (vI _), some (vI _), some (vI _), some (vI _), none]) rfl ?_
  exact X11_flowsTo_J75_ok C hlv hr5 h
set_option maxRecDepth 100000 in
set_option maxHeartbeats 4000000 in
theorem X11_flowsTo_L5_bok {g : Gm} {w : Wd} (C : Cx g w RX11 cX11_flowsTo 6 (some .int)) {lv : Nat} (hlv : 2 < lv) {N : Nat} {r5 : Nat → Int → Int → Int → Int → Option Int} {l0 : Nat} {l1 : Int} {l2 : Int} {l3 : Int} {l4 : Int} {m : Mem} {out : Int} (hr5 : ∀ l0 l1 l2 l3 l4, r5 l0 l1 l2 l3 l4 = some out → Jd g w 6 (rmL lv 0 0) (Qm g w (some (vI out)) m) 5 [some (vR l0), some (vI l1), some (vI l2), some (vI l3), some (vI l4), none] [] 312 m 0 0) (h : X11_flowsTo_L5_b N m r5 l0 l1 l2 l3 l4 = some out) : Jd g w 6 (rmL lv 0 0) (Qm g w (some (vI out)) m) 5 [some (vR l0), some (vI l1), some (vI l2), some (vI l3), some (vI l4), none] [] 312 m 0 0 := by
  unfold X11_flowsTo_L5_b at h
  refine j_iload C dX11_flowsTo_5 rfl ?_
  refine j_iconst C dX11_flowsTo_7 rfl ?_
  refine j_icmp_ge C 81 dX11_flowsTo_8 rfl h (fun c12 h => ?_) (fun c12 h => ?_)
  · refine j_iload_n C dX11_flowsTo_81 rfl ?_
    exact j_ri C dX11_flowsTo_82 rfl (Option.some.inj h).symm rfl
  · refine j_aload_n C dX11_flowsTo_11 rfl ?_
    refine j_iload_n C dX11_flowsTo_12 rfl ?_
    refine j_iload C dX11_flowsTo_13 rfl ?_
    obtain ⟨p1, ep1, h⟩ := bind_some h
    have qp1 := X11_next_ct ep1
    refine j_cVI C dX11_flowsTo_15 vl_X11_455 CF11 rfl qp1.1 qp1.2 (by omega) rfl rfl (Nat.le_of_ble_eq_true rfl) ?_
    refine j_istore (ls' := [some (vR _), some (vI _), some (vI _), some (vI _), some (vI _), some (vI _)]) C dX11_flowsTo_18 (by decide) rfl ?_
    refine j_iload C dX11_flowsTo_20 rfl ?_
    refine j_iconst C dX11_flowsTo_22 rfl ?_
    refine j_icmp_eq C 75 dX11_flowsTo_23 rfl h (fun c11 h => ?_) (fun c11 h => ?_)
    · refine j_mask [true, true, true, true, true, false] (ls' := [some (vR _), some (vI _), some (vI _), some (vI _), some (vI _), none]) rfl ?_
      exact X11_flowsTo_J75_ok C hlv hr5 h
    · refine j_aload_n C dX11_flowsTo_26 rfl ?_
      refine j_iload_n C dX11_flowsTo_27 rfl ?_
      refine j_iload C dX11_flowsTo_28 rfl ?_
      obtain ⟨p2, ep2, h⟩ := bind_some h
      have qp2 := X11_isWall_ct ep2
      refine j_cVI C dX11_flowsTo_30 vl_X11_451 CF11 rfl qp2.1 qp2.2 (by omega) rfl rfl (Nat.le_of_ble_eq_true rfl) ?_
      refine j_if_ne C 75 dX11_flowsTo_33 rfl h (fun c10 h => ?_) (fun c10 h => ?_)
      · refine j_mask [true, true, true, true, true, false] (ls' := [some (vR _), some (vI _), some (vI _), some (vI _), some (vI _), none]) rfl ?_
        exact X11_flowsTo_J75_ok C hlv hr5 h
      · refine j_aload_n C dX11_flowsTo_36 rfl ?_
        refine j_iload C dX11_flowsTo_37 rfl ?_
        obtain ⟨p3, ep3, h⟩ := bind_some h
        have qp3 := X11_heightOf_ct ep3
        refine j_cVI C dX11_flowsTo_39 vl_X11_476 CF11 rfl qp3.1 qp3.2 (by omega) rfl rfl (Nat.le_of_ble_eq_true rfl) ?_
        refine j_aload_n C dX11_flowsTo_42 rfl ?_
        refine j_iload_n C dX11_flowsTo_43 rfl ?_
        obtain ⟨p4, ep4, h⟩ := bind_some h
        have qp4 := X11_heightOf_ct ep4
        refine j_cVI C dX11_flowsTo_44 vl_X11_476 CF11 rfl qp4.1 qp4.2 (by omega) rfl rfl (Nat.le_of_ble_eq_true rfl) ?_
        refine j_icmp_lt C 53 dX11_flowsTo_47 rfl h (fun c9 h => ?_) (fun c9 h => ?_)
        · refine j_iload_n C dX11_flowsTo_53 rfl ?_
          refine j_iconst C dX11_flowsTo_54 rfl ?_
          refine j_icmp_eq C 72 dX11_flowsTo_55 rfl h (fun c8 h => ?_) (fun c8 h => ?_)
          · refine j_mask [true, true, true, false, true, true] (ls' := [some (vR _), some (vI _), some (vI _), none, some (vI _), some (vI _)]) rfl ?_
            exact X11_flowsTo_J72_ok C hlv hr5 h
          · refine j_aload_n C dX11_flowsTo_58 rfl ?_
            refine j_iload C dX11_flowsTo_59 rfl ?_
            obtain ⟨p5, ep5, h⟩ := bind_some h
            have qp5 := X11_heightOf_ct ep5
            refine j_cVI C dX11_flowsTo_61 vl_X11_476 CF11 rfl qp5.1 qp5.2 (by omega) rfl rfl (Nat.le_of_ble_eq_true rfl) ?_
            refine j_aload_n C dX11_flowsTo_64 rfl ?_
            refine j_iload_n C dX11_flowsTo_65 rfl ?_
            obtain ⟨p6, ep6, h⟩ := bind_some h
            have qp6 := X11_heightOf_ct ep6
            refine j_cVI C dX11_flowsTo_66 vl_X11_476 CF11 rfl qp6.1 qp6.2 (by omega) rfl rfl (Nat.le_of_ble_eq_true rfl) ?_
            refine j_icmp_ge C 75 dX11_flowsTo_69 rfl h (fun c7 h => ?_) (fun c7 h => ?_)
            · refine j_mask [true, true, true, true, true, false] (ls' := [some (vR _), some (vI _), some (vI _), some (vI _), some (vI _), none]) rfl ?_
              exact X11_flowsTo_J75_ok C hlv hr5 h
            · refine j_mask [true, true, true, false, true, true] (ls' := [some (vR _), some (vI _), some (vI _), none, some (vI _), some (vI _)]) rfl ?_
              exact X11_flowsTo_J72_ok C hlv hr5 h
        · refine j_goto C 75 dX11_flowsTo_50 rfl ?_
          refine j_mask [true, true, true, true, true, false] (ls' := [some (vR _), some (vI _), some (vI _), some (vI _), some (vI _), none]) rfl ?_
          exact X11_flowsTo_J75_ok C hlv hr5 h
set_option maxRecDepth 100000 in
set_option maxHeartbeats 4000000 in
theorem X11_flowsTo_L5_ok {g : Gm} {w : Wd} (C : Cx g w RX11 cX11_flowsTo 6 (some .int)) {lv : Nat} (hlv : 2 < lv) {N : Nat} {m : Mem} {out : Int} (f : Nat) : ∀ {l0 : Nat} {l1 : Int} {l2 : Int} {l3 : Int} {l4 : Int}, X11_flowsTo_L5 N m f l0 l1 l2 l3 l4 = some out → Jd g w 6 (rmL lv 0 0) (Qm g w (some (vI out)) m) 5 [some (vR l0), some (vI l1), some (vI l2), some (vI l3), some (vI l4), none] [] 312 m 0 0 := by
  induction f with
  | zero => intro l0 l1 l2 l3 l4 h; exact none_ne (α := Int) h
  | succ f ih => intro l0 l1 l2 l3 l4 h; exact X11_flowsTo_L5_bok C hlv (fun l0 l1 l2 l3 l4 h => ih h) h
set_option maxRecDepth 100000 in
set_option maxHeartbeats 4000000 in
theorem X11_flowsTo_ct {N : Nat} {l0 : Nat} {l1 : Int} {l2 : Int} {m : Mem} {out : Int} (h : X11_flowsTo N l0 l1 l2 m = some out) : shK l0 = 11 + 10 ∧ CT yX11_flowsTo cX11_flowsTo 6 (some .int) 3 0 0 [vR l0, vI l1, vI l2] 312 m (some (vI out)) 312 m := by
  unfold X11_flowsTo at h
  obtain ⟨hK, h⟩ := ite_some h
  have hlv : 2 < 3 := by decide
  refine ⟨hK, CT.of (by decide +kernel) rfl (Nat.le_of_ble_eq_true rfl) (ls := [some (vR l0), some (vI l1), some (vI l2), none, none, none]) rfl fun g w C _ => ?_⟩
  refine j_iconst C dX11_flowsTo_0 rfl ?_
  refine j_istore_n (ls' := [some (vR _), some (vI _), some (vI _), some (vI _), none, none]) C dX11_flowsTo_1 (by decide) rfl ?_
  refine j_iconst C dX11_flowsTo_2 rfl ?_
  refine j_istore (ls' := [some (vR _), some (vI _), some (vI _), some (vI _), some (vI _), none]) C dX11_flowsTo_3 (by decide) rfl ?_
  exact X11_flowsTo_L5_ok C hlv N h
theorem dX11_colds_0 : decode cX11_colds 0 = .ok (.bipush 42, 2) := by decide +kernel
theorem dX11_colds_2 : decode cX11_colds 2 = .ok (.iload_n 2, 1) := by decide +kernel
theorem dX11_colds_3 : decode cX11_colds 3 = .ok (.imul, 1) := by decide +kernel
theorem dX11_colds_4 : decode cX11_colds 4 = .ok (.istore_n 3, 1) := by decide +kernel
theorem dX11_colds_5 : decode cX11_colds 5 = .ok (.iconst 0, 1) := by decide +kernel
theorem dX11_colds_6 : decode cX11_colds 6 = .ok (.istore 4, 2) := by decide +kernel
theorem dX11_colds_8 : decode cX11_colds 8 = .ok (.iload 4, 2) := by decide +kernel
theorem dX11_colds_10 : decode cX11_colds 10 = .ok (.aload_n 0, 1) := by decide +kernel
theorem dX11_colds_11 : decode cX11_colds 11 = .ok (.invokevirtual 438, 3) := by decide +kernel
theorem dX11_colds_14 : decode cX11_colds 14 = .ok (.if_icmp .ge 57, 3) := by decide +kernel
theorem dX11_colds_17 : decode cX11_colds 17 = .ok (.aload_n 0, 1) := by decide +kernel
theorem dX11_colds_18 : decode cX11_colds 18 = .ok (.getfield 203, 3) := by decide +kernel
theorem dX11_colds_21 : decode cX11_colds 21 = .ok (.iload_n 3, 1) := by decide +kernel
theorem dX11_colds_22 : decode cX11_colds 22 = .ok (.iload 4, 2) := by decide +kernel
theorem dX11_colds_24 : decode cX11_colds 24 = .ok (.iadd, 1) := by decide +kernel
theorem dX11_colds_25 : decode cX11_colds 25 = .ok (.aload_n 0, 1) := by decide +kernel
theorem dX11_colds_26 : decode cX11_colds 26 = .ok (.getfield 203, 3) := by decide +kernel
theorem dX11_colds_29 : decode cX11_colds 29 = .ok (.iload_n 3, 1) := by decide +kernel
theorem dX11_colds_30 : decode cX11_colds 30 = .ok (.bipush 42, 2) := by decide +kernel
theorem dX11_colds_32 : decode cX11_colds 32 = .ok (.isub, 1) := by decide +kernel
theorem dX11_colds_33 : decode cX11_colds 33 = .ok (.iload 4, 2) := by decide +kernel
theorem dX11_colds_35 : decode cX11_colds 35 = .ok (.iadd, 1) := by decide +kernel
theorem dX11_colds_36 : decode cX11_colds 36 = .ok (.iaload, 1) := by decide +kernel
theorem dX11_colds_37 : decode cX11_colds 37 = .ok (.aload_n 0, 1) := by decide +kernel
theorem dX11_colds_38 : decode cX11_colds 38 = .ok (.getfield 200, 3) := by decide +kernel
theorem dX11_colds_41 : decode cX11_colds 41 = .ok (.iload_n 2, 1) := by decide +kernel
theorem dX11_colds_42 : decode cX11_colds 42 = .ok (.iconst 1, 1) := by decide +kernel
theorem dX11_colds_43 : decode cX11_colds 43 = .ok (.isub, 1) := by decide +kernel
theorem dX11_colds_44 : decode cX11_colds 44 = .ok (.iaload, 1) := by decide +kernel
theorem dX11_colds_45 : decode cX11_colds 45 = .ok (.ifCond .ne 17, 3) := by decide +kernel
theorem dX11_colds_48 : decode cX11_colds 48 = .ok (.aload_n 0, 1) := by decide +kernel
theorem dX11_colds_49 : decode cX11_colds 49 = .ok (.iload_n 1, 1) := by decide +kernel
theorem dX11_colds_50 : decode cX11_colds 50 = .ok (.iload 4, 2) := by decide +kernel
theorem dX11_colds_52 : decode cX11_colds 52 = .ok (.invokevirtual 451, 3) := by decide +kernel
theorem dX11_colds_55 : decode cX11_colds 55 = .ok (.ifCond .ne 7, 3) := by decide +kernel
theorem dX11_colds_58 : decode cX11_colds 58 = .ok (.iconst 1, 1) := by decide +kernel
theorem dX11_colds_59 : decode cX11_colds 59 = .ok (.goto 4, 3) := by decide +kernel
theorem dX11_colds_62 : decode cX11_colds 62 = .ok (.iconst 0, 1) := by decide +kernel
theorem dX11_colds_63 : decode cX11_colds 63 = .ok (.iadd, 1) := by decide +kernel
theorem dX11_colds_64 : decode cX11_colds 64 = .ok (.iastore, 1) := by decide +kernel
theorem dX11_colds_65 : decode cX11_colds 65 = .ok (.iinc 4 1, 3) := by decide +kernel
theorem dX11_colds_68 : decode cX11_colds 68 = .ok (.goto (-60), 3) := by decide +kernel
theorem dX11_colds_71 : decode cX11_colds 71 = .ok (.bipush 9, 2) := by decide +kernel
theorem dX11_colds_73 : decode cX11_colds 73 = .ok (.istore 4, 2) := by decide +kernel
theorem dX11_colds_75 : decode cX11_colds 75 = .ok (.iload 4, 2) := by decide +kernel
theorem dX11_colds_77 : decode cX11_colds 77 = .ok (.ifCond .le 102, 3) := by decide +kernel
theorem dX11_colds_80 : decode cX11_colds 80 = .ok (.iconst 0, 1) := by decide +kernel
theorem dX11_colds_81 : decode cX11_colds 81 = .ok (.istore 5, 2) := by decide +kernel
theorem dX11_colds_83 : decode cX11_colds 83 = .ok (.iload 5, 2) := by decide +kernel
theorem dX11_colds_85 : decode cX11_colds 85 = .ok (.aload_n 0, 1) := by decide +kernel
theorem dX11_colds_86 : decode cX11_colds 86 = .ok (.invokevirtual 438, 3) := by decide +kernel
theorem dX11_colds_89 : decode cX11_colds 89 = .ok (.if_icmp .ge 84, 3) := by decide +kernel
theorem dX11_colds_92 : decode cX11_colds 92 = .ok (.aload_n 0, 1) := by decide +kernel
theorem dX11_colds_93 : decode cX11_colds 93 = .ok (.iload 5, 2) := by decide +kernel
theorem dX11_colds_95 : decode cX11_colds 95 = .ok (.invokevirtual 476, 3) := by decide +kernel
theorem dX11_colds_98 : decode cX11_colds 98 = .ok (.iload 4, 2) := by decide +kernel
theorem dX11_colds_100 : decode cX11_colds 100 = .ok (.if_icmp .ne 67, 3) := by decide +kernel
theorem dX11_colds_103 : decode cX11_colds 103 = .ok (.aload_n 0, 1) := by decide +kernel
theorem dX11_colds_104 : decode cX11_colds 104 = .ok (.getfield 203, 3) := by decide +kernel
theorem dX11_colds_107 : decode cX11_colds 107 = .ok (.iload_n 3, 1) := by decide +kernel
theorem dX11_colds_108 : decode cX11_colds 108 = .ok (.iload 5, 2) := by decide +kernel
theorem dX11_colds_110 : decode cX11_colds 110 = .ok (.iadd, 1) := by decide +kernel
theorem dX11_colds_111 : decode cX11_colds 111 = .ok (.iaload, 1) := by decide +kernel
theorem dX11_colds_112 : decode cX11_colds 112 = .ok (.ifCond .ne 6, 3) := by decide +kernel
theorem dX11_colds_115 : decode cX11_colds 115 = .ok (.goto 52, 3) := by decide +kernel
theorem dX11_colds_118 : decode cX11_colds 118 = .ok (.aload_n 0, 1) := by decide +kernel
theorem dX11_colds_119 : decode cX11_colds 119 = .ok (.iload_n 1, 1) := by decide +kernel
theorem dX11_colds_120 : decode cX11_colds 120 = .ok (.iload 5, 2) := by decide +kernel
theorem dX11_colds_122 : decode cX11_colds 122 = .ok (.invokevirtual 502, 3) := by decide +kernel
theorem dX11_colds_125 : decode cX11_colds 125 = .ok (.istore 6, 2) := by decide +kernel
theorem dX11_colds_127 : decode cX11_colds 127 = .ok (.iload 6, 2) := by decide +kernel
theorem dX11_colds_129 : decode cX11_colds 129 = .ok (.iconst (-1), 1) := by decide +kernel
theorem dX11_colds_130 : decode cX11_colds 130 = .ok (.if_icmp .ne 6, 3) := by decide +kernel
theorem dX11_colds_133 : decode cX11_colds 133 = .ok (.goto 34, 3) := by decide +kernel
theorem dX11_colds_136 : decode cX11_colds 136 = .ok (.aload_n 0, 1) := by decide +kernel
theorem dX11_colds_137 : decode cX11_colds 137 = .ok (.getfield 203, 3) := by decide +kernel
theorem dX11_colds_140 : decode cX11_colds 140 = .ok (.iload_n 3, 1) := by decide +kernel
theorem dX11_colds_141 : decode cX11_colds 141 = .ok (.iload 6, 2) := by decide +kernel
theorem dX11_colds_143 : decode cX11_colds 143 = .ok (.iadd, 1) := by decide +kernel
theorem dX11_colds_144 : decode cX11_colds 144 = .ok (.dup2, 1) := by decide +kernel
theorem dX11_colds_145 : decode cX11_colds 145 = .ok (.iaload, 1) := by decide +kernel
theorem dX11_colds_146 : decode cX11_colds 146 = .ok (.aload_n 0, 1) := by decide +kernel
theorem dX11_colds_147 : decode cX11_colds 147 = .ok (.getfield 203, 3) := by decide +kernel
theorem dX11_colds_150 : decode cX11_colds 150 = .ok (.iload_n 3, 1) := by decide +kernel
theorem dX11_colds_151 : decode cX11_colds 151 = .ok (.iload 5, 2) := by decide +kernel
theorem dX11_colds_153 : decode cX11_colds 153 = .ok (.iadd, 1) := by decide +kernel
theorem dX11_colds_154 : decode cX11_colds 154 = .ok (.iaload, 1) := by decide +kernel
theorem dX11_colds_155 : decode cX11_colds 155 = .ok (.iadd, 1) := by decide +kernel
theorem dX11_colds_156 : decode cX11_colds 156 = .ok (.iastore, 1) := by decide +kernel
theorem dX11_colds_157 : decode cX11_colds 157 = .ok (.aload_n 0, 1) := by decide +kernel
theorem dX11_colds_158 : decode cX11_colds 158 = .ok (.getfield 203, 3) := by decide +kernel
theorem dX11_colds_161 : decode cX11_colds 161 = .ok (.iload_n 3, 1) := by decide +kernel
theorem dX11_colds_162 : decode cX11_colds 162 = .ok (.iload 5, 2) := by decide +kernel
theorem dX11_colds_164 : decode cX11_colds 164 = .ok (.iadd, 1) := by decide +kernel
theorem dX11_colds_165 : decode cX11_colds 165 = .ok (.iconst 0, 1) := by decide +kernel
theorem dX11_colds_166 : decode cX11_colds 166 = .ok (.iastore, 1) := by decide +kernel
theorem dX11_colds_167 : decode cX11_colds 167 = .ok (.iinc 5 1, 3) := by decide +kernel
theorem dX11_colds_170 : decode cX11_colds 170 = .ok (.goto (-87), 3) := by decide +kernel
theorem dX11_colds_173 : decode cX11_colds 173 = .ok (.iinc 4 (-1), 3) := by decide +kernel
theorem dX11_colds_176 : decode cX11_colds 176 = .ok (.goto (-101), 3) := by decide +kernel
theorem dX11_colds_179 : decode cX11_colds 179 = .ok (.return_, 1) := by decide +kernel
set_option maxRecDepth 100000 in
set_option maxHeartbeats 4000000 in
theorem X11_colds_J63_ok {g : Gm} {w : Wd} (C : Cx g w RX11 cX11_colds 7 none) {lv : Nat} (hlv : 3 < lv) {N : Nat} {r8 : Nat → Int → Int → Int → Int → Mem → Option Mem } {l0 : Nat} {l1 : Int} {l2 : Int} {l3 : Int} {l4 : Int} {s0 : Nat} {s1 : Int} {s2 : Int} {s3 : Int} {m : Mem} {out : Mem} (hr8 : ∀ l0 l1 l2 l3 l4 m, r8 l0 l1 l2 l3 l4 m = some out → Jd g w 7 (rmL lv 0 0) (Qm g w none out) 8 [some (vR l0), some (vI l1), some (vI l2), some (vI l3), some (vI l4), none, none] [] 312 m 0 0) (h : X11_colds_J63 N r8 l0 l1 l2 l3 l4 s0 s1 s2 s3 m = some out) : Jd g w 7 (rmL lv 0 0) (Qm g w none out) 63 [some (vR l0), some (vI l1), some (vI l2), some (vI l3), some (vI l4), none, none] [vI s3, vI s2, vI s1, vR s0] 312 m 0 0 := by
  unfold X11_colds_J63 at h
  refine j_iadd C dX11_colds_63 ?_
  refine j_iast C dX11_colds_64 rfl h (fun m7 h => ?_)
  refine j_iinc (ls' := [some (vR _), some (vI _), some (vI _), some (vI _), some (vI _), none, none]) C dX11_colds_65 rfl (by decide) rfl ?_
  refine j_goto C 8 dX11_colds_68 rfl ?_
  exact hr8 _ _ _ _ _ _ h
set_option maxRecDepth 100000 in
set_option maxHeartbeats 4000000 in
theorem X11_colds_J62_ok {g : Gm} {w : Wd} (C : Cx g w RX11 cX11_colds 7 none) {lv : Nat} (hlv : 3 < lv) {N : Nat} {r8 : Nat → Int → Int → Int → Int → Mem → Option Mem } {l0 : Nat} {l1 : Int} {l2 : Int} {l3 : Int} {l4 : Int} {s0 : Nat} {s1 : Int} {s2 : Int} {m : Mem} {out : Mem} (hr8 : ∀ l0 l1 l2 l3 l4 m, r8 l0 l1 l2 l3 l4 m = some out → Jd g w 7 (rmL lv 0 0) (Qm g w none out) 8 [some (vR l0), some (vI l1), some (vI l2), some (vI l3), some (vI l4), none, none] [] 312 m 0 0) (h : X11_colds_J62 N r8 l0 l1 l2 l3 l4 s0 s1 s2 m = some out) : Jd g w 7 (rmL lv 0 0) (Qm g w none out) 62 [some (vR l0), some (vI l1), some (vI l2), some (vI l3), some (vI l4), none, none] [vI s2, vI s1, vR s0] 312 m 0 0 := by
  unfold X11_colds_J62 at h
  refine j_iconst C dX11_colds_62 rfl ?_
  exact X11_colds_J63_ok C hlv hr8 h
set_option maxRecDepth 100000 in
set_option maxHeartbeats 4000000 in
theorem X11_colds_L8_bok {g : Gm} {w : Wd} (C : Cx g w RX11 cX11_colds 7 none) {lv : Nat} (hlv : 3 < lv) {N : Nat} {k71 : Nat → Int → Int → Mem → Option Mem} {r8 : Nat → Int → Int → Int → Int → Mem → Option Mem} {l0 : Nat} {l1 : Int} {l2 : Int} {l3 : Int} {l4 : Int} {m : Mem} {out : Mem} (hk71 : ∀ l0 l1 l3 m, k71 l0 l1 l3 m = some out → Jd g w 7 (rmL lv 0 0) (Qm g w none out) 71 [some (vR l0), some (vI l1), none, some (vI l3), none, none, none] [] 312 m 0 0) (hr8 : ∀ l0 l1 l2 l3 l4 m, r8 l0 l1 l2 l3 l4 m = some out → Jd g w 7 (rmL lv 0 0) (Qm g w none out) 8 [some (vR l0), some (vI l1), some (vI l2), some (vI l3), some (vI l4), none, none] [] 312 m 0 0) (h : X11_colds_L8_b N k71 r8 l0 l1 l2 l3 l4 m = some out) : Jd g w 7 (rmL lv 0 0) (Qm g w none out) 8 [some (vR l0), some (vI l1), some (vI l2), some (vI l3), some (vI l4), none, none] [] 312 m 0 0 := by
  unfold X11_colds_L8_b at h
  refine j_iload C dX11_colds_8 rfl ?_
  refine j_aload_n C dX11_colds_10 rfl ?_
  obtain ⟨p1, ep1, h⟩ := bind_some h
  have qp1 := X11_cells_ct ep1
  refine j_cVI C dX11_colds_11 vl_X11_438 CF11 rfl qp1.1 qp1.2 (by omega) rfl rfl (Nat.le_of_ble_eq_true rfl) ?_
  refine j_icmp_ge C 71 dX11_colds_14 rfl h (fun c11 h => ?_) (fun c11 h => ?_)
  · refine j_mask [true, true, false, true, false, false, false] (ls' := [some (vR _), some (vI _), none, some (vI _), none, none, none]) rfl ?_
    exact hk71 _ _ _ _ h
  · refine j_aload_n C dX11_colds_17 rfl ?_
    refine j_getR C dX11_colds_18 CF11 (by decide) fl_X11_203 rfl rfl h (fun t2 h => ?_)
    refine j_iload_n C dX11_colds_21 rfl ?_
    refine j_iload C dX11_colds_22 rfl ?_
    refine j_iadd C dX11_colds_24 ?_
    refine j_aload_n C dX11_colds_25 rfl ?_
    refine j_getR C dX11_colds_26 CF11 (by decide) fl_X11_203 rfl rfl h (fun t3 h => ?_)
    refine j_iload_n C dX11_colds_29 rfl ?_
    refine j_bipush C dX11_colds_30 rfl ?_
    refine j_isub C dX11_colds_32 ?_
    refine j_iload C dX11_colds_33 rfl ?_
    refine j_iadd C dX11_colds_35 ?_
    refine j_iald C dX11_colds_36 rfl h (fun t4 h => ?_)
    refine j_aload_n C dX11_colds_37 rfl ?_
    refine j_getR C dX11_colds_38 CF11 (by decide) fl_X11_200 rfl rfl h (fun t5 h => ?_)
    refine j_iload_n C dX11_colds_41 rfl ?_
    refine j_iconst C dX11_colds_42 rfl ?_
    refine j_isub C dX11_colds_43 ?_
    refine j_iald C dX11_colds_44 rfl h (fun t6 h => ?_)
    refine j_if_ne C 62 dX11_colds_45 rfl h (fun c10 h => ?_) (fun c10 h => ?_)
    · exact X11_colds_J62_ok C hlv hr8 h
    · refine j_aload_n C dX11_colds_48 rfl ?_
      refine j_iload_n C dX11_colds_49 rfl ?_
      refine j_iload C dX11_colds_50 rfl ?_
      obtain ⟨p8, ep8, h⟩ := bind_some h
      have qp8 := X11_isWall_ct ep8
      refine j_cVI C dX11_colds_52 vl_X11_451 CF11 rfl qp8.1 qp8.2 (by omega) rfl rfl (Nat.le_of_ble_eq_true rfl) ?_
      refine j_if_ne C 62 dX11_colds_55 rfl h (fun c9 h => ?_) (fun c9 h => ?_)
      · exact X11_colds_J62_ok C hlv hr8 h
      · refine j_iconst C dX11_colds_58 rfl ?_
        refine j_goto C 63 dX11_colds_59 rfl ?_
        exact X11_colds_J63_ok C hlv hr8 h
set_option maxRecDepth 100000 in
set_option maxHeartbeats 4000000 in
theorem X11_colds_L8_ok {g : Gm} {w : Wd} (C : Cx g w RX11 cX11_colds 7 none) {lv : Nat} (hlv : 3 < lv) {N : Nat} {k71 : Nat → Int → Int → Mem → Option Mem} {out : Mem} (hk71 : ∀ l0 l1 l3 m, k71 l0 l1 l3 m = some out → Jd g w 7 (rmL lv 0 0) (Qm g w none out) 71 [some (vR l0), some (vI l1), none, some (vI l3), none, none, none] [] 312 m 0 0) (f : Nat) : ∀ {l0 : Nat} {l1 : Int} {l2 : Int} {l3 : Int} {l4 : Int} {m : Mem}, X11_colds_L8 N k71 f l0 l1 l2 l3 l4 m = some out → Jd g w 7 (rmL lv 0 0) (Qm g w none out) 8 [some (vR l0), some (vI l1), some (vI l2), some (vI l3), some (vI l4), none, none] [] 312 m 0 0 := by
  induction f with
  | zero => intro l0 l1 l2 l3 l4 m h; exact none_ne (α := Mem) h
  | succ f ih => intro l0 l1 l2 l3 l4 m h; exact X11_colds_L8_bok C hlv hk71 (fun l0 l1 l2 l3 l4 m h => ih h) h
set_option maxRecDepth 100000 in
set_option maxHeartbeats 4000000 in
theorem X11_colds_J167_ok {g : Gm} {w : Wd} (C : Cx g w RX11 cX11_colds 7 none) {lv : Nat} (hlv : 3 < lv) {N : Nat} {r83 : Nat → Int → Int → Int → Int → Mem → Option Mem } {l0 : Nat} {l1 : Int} {l3 : Int} {l4 : Int} {l5 : Int} {m : Mem} {out : Mem} (hr83 : ∀ l0 l1 l3 l4 l5 m, r83 l0 l1 l3 l4 l5 m = some out → Jd g w 7 (rmL lv 0 0) (Qm g w none out) 83 [some (vR l0), some (vI l1), none, some (vI l3), some (vI l4), some (vI l5), none] [] 312 m 0 0) (h : X11_colds_J167 N r83 l0 l1 l3 l4 l5 m = some out) : Jd g w 7 (rmL lv 0 0) (Qm g w none out) 167 [some (vR l0), some (vI l1), none, some (vI l3), some (vI l4), some (vI l5), none] [] 312 m 0 0 := by
  unfold X11_colds_J167 at h
  refine j_iinc (ls' := [some (vR _), some (vI _), none, some (vI _), some (vI _), some (vI _), none]) C dX11_colds_167 rfl (by decide) rfl ?_
  refine j_goto C 83 dX11_colds_170 rfl ?_
  exact hr83 _ _ _ _ _ _ h
set_option maxRecDepth 100000 in
set_option maxHeartbeats 4000000 in
theorem X11_colds_L83_bok {g : Gm} {w : Wd} (C : Cx g w RX11 cX11_colds 7 none) {lv : Nat} (hlv : 3 < lv) {N : Nat} {k173 : Nat → Int → Int → Int → Mem → Option Mem} {r83 : Nat → Int → Int → Int → Int → Mem → Option Mem} {l0 : Nat} {l1 : Int} {l3 : Int} {l4 : Int} {l5 : Int} {m : Mem} {out : Mem} (hk173 : ∀ l0 l1 l3 l4 m, k173 l0 l1 l3 l4 m = some out → Jd g w 7 (rmL lv 0 0) (Qm g w none out) 173 [some (vR l0), some (vI l1), none, some (vI l3), some (vI l4), none, none] [] 312 m 0 0) (hr83 : ∀ l0 l1 l3 l4 l5 m, r83 l0 l1 l3 l4 l5 m = some out → Jd g w 7 (rmL lv 0 0) (Qm g w none out) 83 [some (vR l0), some (vI l1), none, some (vI l3), some (vI l4), some (vI l5), none] [] 312 m 0 0) (h : X11_colds_L83_b N k173 r83 l0 l1 l3 l4 l5 m = some out) : Jd g w 7 (rmL lv 0 0) (Qm g w none out) 83 [some (vR l0), some (vI l1), none, some (vI l3), some (vI l4), some (vI l5), none] [] 312 m 0 0 := by
  unfold X11_colds_L83_b at h
  refine j_iload C dX11_colds_83 rfl ?_
  refine j_aload_n C dX11_colds_85 rfl ?_
  obtain ⟨p16, ep16, h⟩ := bind_some h
  have qp16 := X11_cells_ct ep16
  refine j_cVI C dX11_colds_86 vl_X11_438 CF11 rfl qp16.1 qp16.2 (by omega) rfl rfl (Nat.le_of_ble_eq_true rfl) ?_
  refine j_icmp_ge C 173 dX11_colds_89 rfl h (fun c31 h => ?_) (fun c31 h => ?_)
  · refine j_mask [true, true, false, true, true, false, false] (ls' := [some (vR _), some (vI _), none, some (vI _), some (vI _), none, none]) rfl ?_
    exact hk173 _ _ _ _ _ h
  · refine j_aload_n C dX11_colds_92 rfl ?_
    refine j_iload C dX11_colds_93 rfl ?_
    obtain ⟨p17, ep17, h⟩ := bind_some h
    have qp17 := X11_heightOf_ct ep17
    refine j_cVI C dX11_colds_95 vl_X11_476 CF11 rfl qp17.1 qp17.2 (by omega) rfl rfl (Nat.le_of_ble_eq_true rfl) ?_
    refine j_iload C dX11_colds_98 rfl ?_
    refine j_icmp_ne C 167 dX11_colds_100 rfl h (fun c30 h => ?_) (fun c30 h => ?_)
    · exact X11_colds_J167_ok C hlv hr83 h
    · refine j_aload_n C dX11_colds_103 rfl ?_
      refine j_getR C dX11_colds_104 CF11 (by decide) fl_X11_203 rfl rfl h (fun t18 h => ?_)
      refine j_iload_n C dX11_colds_107 rfl ?_
      refine j_iload C dX11_colds_108 rfl ?_
      refine j_iadd C dX11_colds_110 ?_
      refine j_iald C dX11_colds_111 rfl h (fun t19 h => ?_)
      refine j_if_ne C 118 dX11_colds_112 rfl h (fun c29 h => ?_) (fun c29 h => ?_)
      · refine j_aload_n C dX11_colds_118 rfl ?_
        refine j_iload_n C dX11_colds_119 rfl ?_
        refine j_iload C dX11_colds_120 rfl ?_
        obtain ⟨p20, ep20, h⟩ := bind_some h
        have qp20 := X11_flowsTo_ct ep20
        refine j_cVI C dX11_colds_122 vl_X11_502 CF11 rfl qp20.1 qp20.2 (by omega) rfl rfl (Nat.le_of_ble_eq_true rfl) ?_
        refine j_istore (ls' := [some (vR _), some (vI _), none, some (vI _), some (vI _), some (vI _), some (vI _)]) C dX11_colds_125 (by decide) rfl ?_
        refine j_iload C dX11_colds_127 rfl ?_
        refine j_iconst C dX11_colds_129 rfl ?_
        refine j_icmp_ne C 136 dX11_colds_130 rfl h (fun c28 h => ?_) (fun c28 h => ?_)
        · refine j_aload_n C dX11_colds_136 rfl ?_
          refine j_getR C dX11_colds_137 CF11 (by decide) fl_X11_203 rfl rfl h (fun t21 h => ?_)
          refine j_iload_n C dX11_colds_140 rfl ?_
          refine j_iload C dX11_colds_141 rfl ?_
          refine j_iadd C dX11_colds_143 ?_
          refine j_dup2 C dX11_colds_144 rfl rfl ?_
          refine j_iald C dX11_colds_145 rfl h (fun t22 h => ?_)
          refine j_aload_n C dX11_colds_146 rfl ?_
          refine j_getR C dX11_colds_147 CF11 (by decide) fl_X11_203 rfl rfl h (fun t23 h => ?_)
          refine j_iload_n C dX11_colds_150 rfl ?_
          refine j_iload C dX11_colds_151 rfl ?_
          refine j_iadd C dX11_colds_153 ?_
          refine j_iald C dX11_colds_154 rfl h (fun t24 h => ?_)
          refine j_iadd C dX11_colds_155 ?_
          refine j_iast C dX11_colds_156 rfl h (fun m25 h => ?_)
          refine j_aload_n C dX11_colds_157 rfl ?_
          refine j_getR C dX11_colds_158 CF11 (by decide) fl_X11_203 rfl rfl h (fun t26 h => ?_)
          refine j_iload_n C dX11_colds_161 rfl ?_
          refine j_iload C dX11_colds_162 rfl ?_
          refine j_iadd C dX11_colds_164 ?_
          refine j_iconst C dX11_colds_165 rfl ?_
          refine j_iast C dX11_colds_166 rfl h (fun m27 h => ?_)
          refine j_mask [true, true, false, true, true, true, false] (ls' := [some (vR _), some (vI _), none, some (vI _), some (vI _), some (vI _), none]) rfl ?_
          exact X11_colds_J167_ok C hlv hr83 h
        · refine j_goto C 167 dX11_colds_133 rfl ?_
          refine j_mask [true, true, false, true, true, true, false] (ls' := [some (vR _), some (vI _), none, some (vI _), some (vI _), some (vI _), none]) rfl ?_
          exact X11_colds_J167_ok C hlv hr83 h
      · refine j_goto C 167 dX11_colds_115 rfl ?_
        exact X11_colds_J167_ok C hlv hr83 h
set_option maxRecDepth 100000 in
set_option maxHeartbeats 4000000 in
theorem X11_colds_L83_ok {g : Gm} {w : Wd} (C : Cx g w RX11 cX11_colds 7 none) {lv : Nat} (hlv : 3 < lv) {N : Nat} {k173 : Nat → Int → Int → Int → Mem → Option Mem} {out : Mem} (hk173 : ∀ l0 l1 l3 l4 m, k173 l0 l1 l3 l4 m = some out → Jd g w 7 (rmL lv 0 0) (Qm g w none out) 173 [some (vR l0), some (vI l1), none, some (vI l3), some (vI l4), none, none] [] 312 m 0 0) (f : Nat) : ∀ {l0 : Nat} {l1 : Int} {l3 : Int} {l4 : Int} {l5 : Int} {m : Mem}, X11_colds_L83 N k173 f l0 l1 l3 l4 l5 m = some out → Jd g w 7 (rmL lv 0 0) (Qm g w none out) 83 [some (vR l0), some (vI l1), none, some (vI l3), some (vI l4), some (vI l5), none] [] 312 m 0 0 := by
  induction f with
  | zero => intro l0 l1 l3 l4 l5 m h; exact none_ne (α := Mem) h
  | succ f ih => intro l0 l1 l3 l4 l5 m h; exact X11_colds_L83_bok C hlv hk173 (fun l0 l1 l3 l4 l5 m h => ih h) h
set_option maxRecDepth 100000 in
set_option maxHeartbeats 4000000 in
theorem X11_colds_L75_bok {g : Gm} {w : Wd} (C : Cx g w RX11 cX11_colds 7 none) {lv : Nat} (hlv : 3 < lv) {N : Nat} {r75 : Nat → Int → Int → Int → Mem → Option Mem} {l0 : Nat} {l1 : Int} {l3 : Int} {l4 : Int} {m : Mem} {out : Mem} (hr75 : ∀ l0 l1 l3 l4 m, r75 l0 l1 l3 l4 m = some out → Jd g w 7 (rmL lv 0 0) (Qm g w none out) 75 [some (vR l0), some (vI l1), none, some (vI l3), some (vI l4), none, none] [] 312 m 0 0) (h : X11_colds_L75_b N r75 l0 l1 l3 l4 m = some out) : Jd g w 7 (rmL lv 0 0) (Qm g w none out) 75 [some (vR l0), some (vI l1), none, some (vI l3), some (vI l4), none, none] [] 312 m 0 0 := by
  unfold X11_colds_L75_b at h
  refine j_iload C dX11_colds_75 rfl ?_
  refine j_if_le C 179 dX11_colds_77 rfl h (fun c37 h => ?_) (fun c37 h => ?_)
  · have e := Option.some.inj h
    subst e
    exact j_rv C dX11_colds_179 rfl rfl
  · refine j_iconst C dX11_colds_80 rfl ?_
    refine j_istore (ls' := [some (vR _), some (vI _), none, some (vI _), some (vI _), some (vI _), none]) C dX11_colds_81 (by decide) rfl ?_
    refine X11_colds_L83_ok C hlv (fun z32 z33 z34 z35 m36 h => ?_) N h
    refine j_iinc (ls' := [some (vR _), some (vI _), none, some (vI _), some (vI _), none, none]) C dX11_colds_173 rfl (by decide) rfl ?_
    refine j_goto C 75 dX11_colds_176 rfl ?_
    exact hr75 _ _ _ _ _ h
set_option maxRecDepth 100000 in
set_option maxHeartbeats 4000000 in
theorem X11_colds_L75_ok {g : Gm} {w : Wd} (C : Cx g w RX11 cX11_colds 7 none) {lv : Nat} (hlv : 3 < lv) {N : Nat} {out : Mem} (f : Nat) : ∀ {l0 : Nat} {l1 : Int} {l3 : Int} {l4 : Int} {m : Mem}, X11_colds_L75 N f l0 l1 l3 l4 m = some out → Jd g w 7 (rmL lv 0 0) (Qm g w none out) 75 [some (vR l0), some (vI l1), none, some (vI l3), some (vI l4), none, none] [] 312 m 0 0 := by
  induction f with
  | zero => intro l0 l1 l3 l4 m h; exact none_ne (α := Mem) h
  | succ f ih => intro l0 l1 l3 l4 m h; exact X11_colds_L75_bok C hlv (fun l0 l1 l3 l4 m h => ih h) h
set_option maxRecDepth 100000 in
set_option maxHeartbeats 4000000 in
theorem X11_colds_ct {N : Nat} {l0 : Nat} {l1 : Int} {l2 : Int} {m : Mem} {out : Mem} (h : X11_colds N l0 l1 l2 m = some out) : shK l0 = 11 + 10 ∧ CT yX11_colds cX11_colds 7 none 4 0 0 [vR l0, vI l1, vI l2] 312 m none 312 out := by
  unfold X11_colds at h
  obtain ⟨hK, h⟩ := ite_some h
  have hlv : 3 < 4 := by decide
  refine ⟨hK, CT.of (by decide +kernel) rfl (Nat.le_of_ble_eq_true rfl) (ls := [some (vR l0), some (vI l1), some (vI l2), none, none, none, none]) rfl fun g w C _ => ?_⟩
  refine j_bipush C dX11_colds_0 rfl ?_
  refine j_iload_n C dX11_colds_2 rfl ?_
  refine j_imul C dX11_colds_3 ?_
  refine j_istore_n (ls' := [some (vR _), some (vI _), some (vI _), some (vI _), none, none, none]) C dX11_colds_4 (by decide) rfl ?_
  refine j_iconst C dX11_colds_5 rfl ?_
  refine j_istore (ls' := [some (vR _), some (vI _), some (vI _), some (vI _), some (vI _), none, none]) C dX11_colds_6 (by decide) rfl ?_
  refine X11_colds_L8_ok C hlv (fun z12 z13 z14 m15 h => ?_) N h
  refine j_bipush C dX11_colds_71 rfl ?_
  refine j_istore (ls' := [some (vR _), some (vI _), none, some (vI _), some (vI _), none, none]) C dX11_colds_73 (by decide) rfl ?_
  exact X11_colds_L75_ok C hlv N h
theorem dX11_takesOf_0 : decode cX11_takesOf 0 = .ok (.aload_n 0, 1) := by decide +kernel
theorem dX11_takesOf_1 : decode cX11_takesOf 1 = .ok (.getfield 87, 3) := by decide +kernel
theorem dX11_takesOf_4 : decode cX11_takesOf 4 = .ok (.bipush 10, 2) := by decide +kernel
theorem dX11_takesOf_6 : decode cX11_takesOf 6 = .ok (.aload_n 0, 1) := by decide +kernel
theorem dX11_takesOf_7 : decode cX11_takesOf 7 = .ok (.getfield 51, 3) := by decide +kernel
theorem dX11_takesOf_10 : decode cX11_takesOf 10 = .ok (.imul, 1) := by decide +kernel
theorem dX11_takesOf_11 : decode cX11_takesOf 11 = .ok (.iload_n 1, 1) := by decide +kernel
theorem dX11_takesOf_12 : decode cX11_takesOf 12 = .ok (.iadd, 1) := by decide +kernel
theorem dX11_takesOf_13 : decode cX11_takesOf 13 = .ok (.iaload, 1) := by decide +kernel
theorem dX11_takesOf_14 : decode cX11_takesOf 14 = .ok (.ireturn, 1) := by decide +kernel
set_option maxRecDepth 100000 in
set_option maxHeartbeats 4000000 in
theorem X11_takesOf_ct {l0 : Nat} {l1 : Int} {m : Mem} {out : Int} (h : X11_takesOf l0 l1 m = some out) : shK l0 = 11 + 10 ∧ CT yX11_takesOf cX11_takesOf 2 (some .int) 1 0 0 [vR l0, vI l1] 312 m (some (vI out)) 312 m := by
  unfold X11_takesOf at h
  obtain ⟨hK, h⟩ := ite_some h
  have hlv : 0 < 1 := by decide
  refine ⟨hK, CT.of (by decide +kernel) rfl (Nat.le_of_ble_eq_true rfl) (ls := [some (vR l0), some (vI l1)]) rfl fun g w C _ => ?_⟩
  refine j_aload_n C dX11_takesOf_0 rfl ?_
  refine j_getR C dX11_takesOf_1 CF11 (by decide) fl_X11_87 rfl rfl h (fun t1 h => ?_)
  refine j_bipush C dX11_takesOf_4 rfl ?_
  refine j_aload_n C dX11_takesOf_6 rfl ?_
  refine j_getI C dX11_takesOf_7 CF11 (by decide) fl_X11_51 rfl rfl h (fun t2 h => ?_)
  refine j_imul C dX11_takesOf_10 ?_
  refine j_iload_n C dX11_takesOf_11 rfl ?_
  refine j_iadd C dX11_takesOf_12 ?_
  refine j_iald C dX11_takesOf_13 rfl h (fun t3 h => ?_)
  exact j_ri C dX11_takesOf_14 rfl (Option.some.inj h).symm rfl
theorem dX11_opennessOf_0 : decode cX11_opennessOf 0 = .ok (.iconst 0, 1) := by decide +kernel
theorem dX11_opennessOf_1 : decode cX11_opennessOf 1 = .ok (.istore_n 3, 1) := by decide +kernel
theorem dX11_opennessOf_2 : decode cX11_opennessOf 2 = .ok (.iconst 0, 1) := by decide +kernel
theorem dX11_opennessOf_3 : decode cX11_opennessOf 3 = .ok (.istore 4, 2) := by decide +kernel
theorem dX11_opennessOf_5 : decode cX11_opennessOf 5 = .ok (.iload 4, 2) := by decide +kernel
theorem dX11_opennessOf_7 : decode cX11_opennessOf 7 = .ok (.bipush 9, 2) := by decide +kernel
theorem dX11_opennessOf_9 : decode cX11_opennessOf 9 = .ok (.if_icmp .ge 138, 3) := by decide +kernel
theorem dX11_opennessOf_12 : decode cX11_opennessOf 12 = .ok (.iload_n 2, 1) := by decide +kernel
theorem dX11_opennessOf_13 : decode cX11_opennessOf 13 = .ok (.aload_n 0, 1) := by decide +kernel
theorem dX11_opennessOf_14 : decode cX11_opennessOf 14 = .ok (.getfield 54, 3) := by decide +kernel
theorem dX11_opennessOf_17 : decode cX11_opennessOf 17 = .ok (.aload_n 0, 1) := by decide +kernel
theorem dX11_opennessOf_18 : decode cX11_opennessOf 18 = .ok (.getfield 51, 3) := by decide +kernel
theorem dX11_opennessOf_21 : decode cX11_opennessOf 21 = .ok (.iaload, 1) := by decide +kernel
theorem dX11_opennessOf_22 : decode cX11_opennessOf 22 = .ok (.irem, 1) := by decide +kernel
theorem dX11_opennessOf_23 : decode cX11_opennessOf 23 = .ok (.iload 4, 2) := by decide +kernel
theorem dX11_opennessOf_25 : decode cX11_opennessOf 25 = .ok (.iconst 3, 1) := by decide +kernel
theorem dX11_opennessOf_26 : decode cX11_opennessOf 26 = .ok (.irem, 1) := by decide +kernel
theorem dX11_opennessOf_27 : decode cX11_opennessOf 27 = .ok (.iadd, 1) := by decide +kernel
theorem dX11_opennessOf_28 : decode cX11_opennessOf 28 = .ok (.iconst 1, 1) := by decide +kernel
theorem dX11_opennessOf_29 : decode cX11_opennessOf 29 = .ok (.isub, 1) := by decide +kernel
theorem dX11_opennessOf_30 : decode cX11_opennessOf 30 = .ok (.istore 5, 2) := by decide +kernel
theorem dX11_opennessOf_32 : decode cX11_opennessOf 32 = .ok (.iload_n 2, 1) := by decide +kernel
theorem dX11_opennessOf_33 : decode cX11_opennessOf 33 = .ok (.aload_n 0, 1) := by decide +kernel
theorem dX11_opennessOf_34 : decode cX11_opennessOf 34 = .ok (.getfield 54, 3) := by decide +kernel
theorem dX11_opennessOf_37 : decode cX11_opennessOf 37 = .ok (.aload_n 0, 1) := by decide +kernel
theorem dX11_opennessOf_38 : decode cX11_opennessOf 38 = .ok (.getfield 51, 3) := by decide +kernel
theorem dX11_opennessOf_41 : decode cX11_opennessOf 41 = .ok (.iaload, 1) := by decide +kernel
theorem dX11_opennessOf_42 : decode cX11_opennessOf 42 = .ok (.idiv, 1) := by decide +kernel
theorem dX11_opennessOf_43 : decode cX11_opennessOf 43 = .ok (.iload 4, 2) := by decide +kernel
theorem dX11_opennessOf_45 : decode cX11_opennessOf 45 = .ok (.iconst 3, 1) := by decide +kernel
theorem dX11_opennessOf_46 : decode cX11_opennessOf 46 = .ok (.idiv, 1) := by decide +kernel
theorem dX11_opennessOf_47 : decode cX11_opennessOf 47 = .ok (.iadd, 1) := by decide +kernel
theorem dX11_opennessOf_48 : decode cX11_opennessOf 48 = .ok (.iconst 1, 1) := by decide +kernel
theorem dX11_opennessOf_49 : decode cX11_opennessOf 49 = .ok (.isub, 1) := by decide +kernel
theorem dX11_opennessOf_50 : decode cX11_opennessOf 50 = .ok (.istore 6, 2) := by decide +kernel
theorem dX11_opennessOf_52 : decode cX11_opennessOf 52 = .ok (.iload 5, 2) := by decide +kernel
theorem dX11_opennessOf_54 : decode cX11_opennessOf 54 = .ok (.iconst 0, 1) := by decide +kernel
theorem dX11_opennessOf_55 : decode cX11_opennessOf 55 = .ok (.aload_n 0, 1) := by decide +kernel
theorem dX11_opennessOf_56 : decode cX11_opennessOf 56 = .ok (.getfield 54, 3) := by decide +kernel
theorem dX11_opennessOf_59 : decode cX11_opennessOf 59 = .ok (.aload_n 0, 1) := by decide +kernel
theorem dX11_opennessOf_60 : decode cX11_opennessOf 60 = .ok (.getfield 51, 3) := by decide +kernel
theorem dX11_opennessOf_63 : decode cX11_opennessOf 63 = .ok (.iaload, 1) := by decide +kernel
theorem dX11_opennessOf_64 : decode cX11_opennessOf 64 = .ok (.iconst 1, 1) := by decide +kernel
theorem dX11_opennessOf_65 : decode cX11_opennessOf 65 = .ok (.isub, 1) := by decide +kernel
theorem dX11_opennessOf_66 : decode cX11_opennessOf 66 = .ok (.invokestatic 334, 3) := by decide +kernel
theorem dX11_opennessOf_69 : decode cX11_opennessOf 69 = .ok (.ifCond .eq 27, 3) := by decide +kernel
theorem dX11_opennessOf_72 : decode cX11_opennessOf 72 = .ok (.iload 6, 2) := by decide +kernel
theorem dX11_opennessOf_74 : decode cX11_opennessOf 74 = .ok (.iconst 0, 1) := by decide +kernel
theorem dX11_opennessOf_75 : decode cX11_opennessOf 75 = .ok (.aload_n 0, 1) := by decide +kernel
theorem dX11_opennessOf_76 : decode cX11_opennessOf 76 = .ok (.getfield 57, 3) := by decide +kernel
theorem dX11_opennessOf_79 : decode cX11_opennessOf 79 = .ok (.aload_n 0, 1) := by decide +kernel
theorem dX11_opennessOf_80 : decode cX11_opennessOf 80 = .ok (.getfield 51, 3) := by decide +kernel
theorem dX11_opennessOf_83 : decode cX11_opennessOf 83 = .ok (.iaload, 1) := by decide +kernel
theorem dX11_opennessOf_84 : decode cX11_opennessOf 84 = .ok (.iconst 1, 1) := by decide +kernel
theorem dX11_opennessOf_85 : decode cX11_opennessOf 85 = .ok (.isub, 1) := by decide +kernel
theorem dX11_opennessOf_86 : decode cX11_opennessOf 86 = .ok (.invokestatic 334, 3) := by decide +kernel
theorem dX11_opennessOf_89 : decode cX11_opennessOf 89 = .ok (.ifCond .eq 7, 3) := by decide +kernel
theorem dX11_opennessOf_92 : decode cX11_opennessOf 92 = .ok (.iconst 1, 1) := by decide +kernel
theorem dX11_opennessOf_93 : decode cX11_opennessOf 93 = .ok (.goto 4, 3) := by decide +kernel
theorem dX11_opennessOf_96 : decode cX11_opennessOf 96 = .ok (.iconst 0, 1) := by decide +kernel
theorem dX11_opennessOf_97 : decode cX11_opennessOf 97 = .ok (.istore 7, 2) := by decide +kernel
theorem dX11_opennessOf_99 : decode cX11_opennessOf 99 = .ok (.iload_n 3, 1) := by decide +kernel
theorem dX11_opennessOf_100 : decode cX11_opennessOf 100 = .ok (.iload 4, 2) := by decide +kernel
theorem dX11_opennessOf_102 : decode cX11_opennessOf 102 = .ok (.iconst 4, 1) := by decide +kernel
theorem dX11_opennessOf_103 : decode cX11_opennessOf 103 = .ok (.if_icmp .eq 35, 3) := by decide +kernel
theorem dX11_opennessOf_106 : decode cX11_opennessOf 106 = .ok (.iload 7, 2) := by decide +kernel
theorem dX11_opennessOf_108 : decode cX11_opennessOf 108 = .ok (.ifCond .eq 26, 3) := by decide +kernel
theorem dX11_opennessOf_111 : decode cX11_opennessOf 111 = .ok (.aload_n 0, 1) := by decide +kernel
theorem dX11_opennessOf_112 : decode cX11_opennessOf 112 = .ok (.iload_n 1, 1) := by decide +kernel
theorem dX11_opennessOf_113 : decode cX11_opennessOf 113 = .ok (.iload 6, 2) := by decide +kernel
theorem dX11_opennessOf_115 : decode cX11_opennessOf 115 = .ok (.aload_n 0, 1) := by decide +kernel
theorem dX11_opennessOf_116 : decode cX11_opennessOf 116 = .ok (.getfield 54, 3) := by decide +kernel
theorem dX11_opennessOf_119 : decode cX11_opennessOf 119 = .ok (.aload_n 0, 1) := by decide +kernel
theorem dX11_opennessOf_120 : decode cX11_opennessOf 120 = .ok (.getfield 51, 3) := by decide +kernel
theorem dX11_opennessOf_123 : decode cX11_opennessOf 123 = .ok (.iaload, 1) := by decide +kernel
theorem dX11_opennessOf_124 : decode cX11_opennessOf 124 = .ok (.imul, 1) := by decide +kernel
theorem dX11_opennessOf_125 : decode cX11_opennessOf 125 = .ok (.iload 5, 2) := by decide +kernel
theorem dX11_opennessOf_127 : decode cX11_opennessOf 127 = .ok (.iadd, 1) := by decide +kernel
theorem dX11_opennessOf_128 : decode cX11_opennessOf 128 = .ok (.invokevirtual 451, 3) := by decide +kernel
theorem dX11_opennessOf_131 : decode cX11_opennessOf 131 = .ok (.ifCond .ne 7, 3) := by decide +kernel
theorem dX11_opennessOf_134 : decode cX11_opennessOf 134 = .ok (.iconst 1, 1) := by decide +kernel
theorem dX11_opennessOf_135 : decode cX11_opennessOf 135 = .ok (.goto 4, 3) := by decide +kernel
theorem dX11_opennessOf_138 : decode cX11_opennessOf 138 = .ok (.iconst 0, 1) := by decide +kernel
theorem dX11_opennessOf_139 : decode cX11_opennessOf 139 = .ok (.iadd, 1) := by decide +kernel
theorem dX11_opennessOf_140 : decode cX11_opennessOf 140 = .ok (.istore_n 3, 1) := by decide +kernel
theorem dX11_opennessOf_141 : decode cX11_opennessOf 141 = .ok (.iinc 4 1, 3) := by decide +kernel
theorem dX11_opennessOf_144 : decode cX11_opennessOf 144 = .ok (.goto (-139), 3) := by decide +kernel
theorem dX11_opennessOf_147 : decode cX11_opennessOf 147 = .ok (.iload_n 3, 1) := by decide +kernel
theorem dX11_opennessOf_148 : decode cX11_opennessOf 148 = .ok (.ireturn, 1) := by decide +kernel
set_option maxRecDepth 100000 in
set_option maxHeartbeats 4000000 in
theorem X11_opennessOf_J139_ok {g : Gm} {w : Wd} (C : Cx g w RX11 cX11_opennessOf 8 (some .int)) {lv : Nat} (hlv : 1 < lv) {N : Nat} {r5 : Nat → Int → Int → Int → Int → Option Int } {l0 : Nat} {l1 : Int} {l2 : Int} {l4 : Int} {s0 : Int} {s1 : Int} {m : Mem} {out : Int} (hr5 : ∀ l0 l1 l2 l3 l4, r5 l0 l1 l2 l3 l4 = some out → Jd g w 8 (rmL lv 0 0) (Qm g w (some (vI out)) m) 5 [some (vR l0), some (vI l1), some (vI l2), some (vI l3), some (vI l4), none, none, none] [] 312 m 0 0) (h : X11_opennessOf_J139 N r5 l0 l1 l2 l4 s0 s1 m = some out) : Jd g w 8 (rmL lv 0 0) (Qm g w (some (vI out)) m) 139 [some (vR l0), some (vI l1), some (vI l2), none, some (vI l4), none, none, none] [vI s1, vI s0] 312 m 0 0 := by
  unfold X11_opennessOf_J139 at h
  refine j_iadd C dX11_opennessOf_139 ?_
  refine j_istore_n (ls' := [some (vR _), some (vI _), some (vI _), some (vI _), some (vI _), none, none, none]) C dX11_opennessOf_140 (by decide) rfl ?_
  refine j_iinc (ls' := [some (vR _), some (vI _), some (vI _), some (vI _), some (vI _), none, none, none]) C dX11_opennessOf_141 rfl (by decide) rfl ?_
  refine j_goto C 5 dX11_opennessOf_144 rfl ?_
  exact hr5 _ _ _ _ _ h
set_option maxRecDepth 100000 in
set_option maxHeartbeats 4000000 in
theorem X11_opennessOf_J138_ok {g : Gm} {w : Wd} (C : Cx g w RX11 cX11_opennessOf 8 (some .int)) {lv : Nat} (hlv : 1 < lv) {N : Nat} {r5 : Nat → Int → Int → Int → Int → Option Int } {l0 : Nat} {l1 : Int} {l2 : Int} {l4 : Int} {s0 : Int} {m : Mem} {out : Int} (hr5 : ∀ l0 l1 l2 l3 l4, r5 l0 l1 l2 l3 l4 = some out → Jd g w 8 (rmL lv 0 0) (Qm g w (some (vI out)) m) 5 [some (vR l0), some (vI l1), some (vI l2), some (vI l3), some (vI l4), none, none, none] [] 312 m 0 0) (h : X11_opennessOf_J138 N r5 l0 l1 l2 l4 s0 m = some out) : Jd g w 8 (rmL lv 0 0) (Qm g w (some (vI out)) m) 138 [some (vR l0), some (vI l1), some (vI l2), none, some (vI l4), none, none, none] [vI s0] 312 m 0 0 := by
  unfold X11_opennessOf_J138 at h
  refine j_iconst C dX11_opennessOf_138 rfl ?_
  exact X11_opennessOf_J139_ok C hlv hr5 h
set_option maxRecDepth 100000 in
set_option maxHeartbeats 4000000 in
theorem X11_opennessOf_J134_ok {g : Gm} {w : Wd} (C : Cx g w RX11 cX11_opennessOf 8 (some .int)) {lv : Nat} (hlv : 1 < lv) {N : Nat} {r5 : Nat → Int → Int → Int → Int → Option Int } {l0 : Nat} {l1 : Int} {l2 : Int} {l4 : Int} {s0 : Int} {m : Mem} {out : Int} (hr5 : ∀ l0 l1 l2 l3 l4, r5 l0 l1 l2 l3 l4 = some out → Jd g w 8 (rmL lv 0 0) (Qm g w (some (vI out)) m) 5 [some (vR l0), some (vI l1), some (vI l2), some (vI l3), some (vI l4), none, none, none] [] 312 m 0 0) (h : X11_opennessOf_J134 N r5 l0 l1 l2 l4 s0 m = some out) : Jd g w 8 (rmL lv 0 0) (Qm g w (some (vI out)) m) 134 [some (vR l0), some (vI l1), some (vI l2), none, some (vI l4), none, none, none] [vI s0] 312 m 0 0 := by
  unfold X11_opennessOf_J134 at h
  refine j_iconst C dX11_opennessOf_134 rfl ?_
  refine j_goto C 139 dX11_opennessOf_135 rfl ?_
  exact X11_opennessOf_J139_ok C hlv hr5 h
set_option maxRecDepth 100000 in
set_option maxHeartbeats 4000000 in
theorem X11_opennessOf_J97_ok {g : Gm} {w : Wd} (C : Cx g w RX11 cX11_opennessOf 8 (some .int)) {lv : Nat} (hlv : 1 < lv) {N : Nat} {r5 : Nat → Int → Int → Int → Int → Option Int } {l0 : Nat} {l1 : Int} {l2 : Int} {l3 : Int} {l4 : Int} {l5 : Int} {l6 : Int} {s0 : Int} {m : Mem} {out : Int} (hr5 : ∀ l0 l1 l2 l3 l4, r5 l0 l1 l2 l3 l4 = some out → Jd g w 8 (rmL lv 0 0) (Qm g w (some (vI out)) m) 5 [some (vR l0), some (vI l1), some (vI l2), some (vI l3), some (vI l4), none, none, none] [] 312 m 0 0) (h : X11_opennessOf_J97 N r5 l0 l1 l2 l3 l4 l5 l6 s0 m = some out) : Jd g w 8 (rmL lv 0 0) (Qm g w (some (vI out)) m) 97 [some (vR l0), some (vI l1), some (vI l2), some (vI l3), some (vI l4), some (vI l5), some (vI l6), none] [vI s0] 312 m 0 0 := by
  unfold X11_opennessOf_J97 at h
  refine j_istore (ls' := [some (vR _), some (vI _), some (vI _), some (vI _), some (vI _), some (vI _), some (vI _), some (vI _)]) C dX11_opennessOf_97 (by decide) rfl ?_
  refine j_iload_n C dX11_opennessOf_99 rfl ?_
  refine j_iload C dX11_opennessOf_100 rfl ?_
  refine j_iconst C dX11_opennessOf_102 rfl ?_
  refine j_icmp_eq C 138 dX11_opennessOf_103 rfl h (fun c19 h => ?_) (fun c19 h => ?_)
  · refine j_mask [true, true, true, false, true, false, false, false] (ls' := [some (vR _), some (vI _), some (vI _), none, some (vI _), none, none, none]) rfl ?_
    exact X11_opennessOf_J138_ok C hlv hr5 h
  · refine j_iload C dX11_opennessOf_106 rfl ?_
    refine j_if_eq C 134 dX11_opennessOf_108 rfl h (fun c18 h => ?_) (fun c18 h => ?_)
    · refine j_mask [true, true, true, false, true, false, false, false] (ls' := [some (vR _), some (vI _), some (vI _), none, some (vI _), none, none, none]) rfl ?_
      exact X11_opennessOf_J134_ok C hlv hr5 h
    · refine j_aload_n C dX11_opennessOf_111 rfl ?_
      refine j_iload_n C dX11_opennessOf_112 rfl ?_
      refine j_iload C dX11_opennessOf_113 rfl ?_
      refine j_aload_n C dX11_opennessOf_115 rfl ?_
      refine j_getR C dX11_opennessOf_116 CF11 (by decide) fl_X11_54 rfl rfl h (fun t13 h => ?_)
      refine j_aload_n C dX11_opennessOf_119 rfl ?_
      refine j_getI C dX11_opennessOf_120 CF11 (by decide) fl_X11_51 rfl rfl h (fun t14 h => ?_)
      refine j_iald C dX11_opennessOf_123 rfl h (fun t15 h => ?_)
      refine j_imul C dX11_opennessOf_124 ?_
      refine j_iload C dX11_opennessOf_125 rfl ?_
      refine j_iadd C dX11_opennessOf_127 ?_
      obtain ⟨p16, ep16, h⟩ := bind_some h
      have qp16 := X11_isWall_ct ep16
      refine j_cVI C dX11_opennessOf_128 vl_X11_451 CF11 rfl qp16.1 qp16.2 (by omega) rfl rfl (Nat.le_of_ble_eq_true rfl) ?_
      refine j_if_ne C 138 dX11_opennessOf_131 rfl h (fun c17 h => ?_) (fun c17 h => ?_)
      · refine j_mask [true, true, true, false, true, false, false, false] (ls' := [some (vR _), some (vI _), some (vI _), none, some (vI _), none, none, none]) rfl ?_
        exact X11_opennessOf_J138_ok C hlv hr5 h
      · refine j_mask [true, true, true, false, true, false, false, false] (ls' := [some (vR _), some (vI _), some (vI _), none, some (vI _), none, none, none]) rfl ?_
        exact X11_opennessOf_J134_ok C hlv hr5 h
set_option maxRecDepth 100000 in
set_option maxHeartbeats 4000000 in
theorem X11_opennessOf_J96_ok {g : Gm} {w : Wd} (C : Cx g w RX11 cX11_opennessOf 8 (some .int)) {lv : Nat} (hlv : 1 < lv) {N : Nat} {r5 : Nat → Int → Int → Int → Int → Option Int } {l0 : Nat} {l1 : Int} {l2 : Int} {l3 : Int} {l4 : Int} {l5 : Int} {l6 : Int} {m : Mem} {out : Int} (hr5 : ∀ l0 l1 l2 l3 l4, r5 l0 l1 l2 l3 l4 = some out → Jd g w 8 (rmL lv 0 0) (Qm g w (some (vI out)) m) 5 [some (vR l0), some (vI l1), some (vI l2), some (vI l3), some (vI l4), none, none, none] [] 312 m 0 0) (h : X11_opennessOf_J96 N r5 l0 l1 l2 l3 l4 l5 l6 m = some out) : Jd g w 8 (rmL lv 0 0) (Qm g w (some (vI out)) m) 96 [some (vR l0), some (vI l1), some (vI l2), some (vI l3), some (vI l4), some (vI l5), some (vI l6), none] [] 312 m 0 0 := by
  unfold X11_opennessOf_J96 at h
  refine j_iconst C dX11_opennessOf_96 rfl ?_
  exact X11_opennessOf_J97_ok C hlv hr5 h
set_option maxRecDepth 100000 in
set_option maxHeartbeats 4000000 in
theorem X11_opennessOf_L5_bok {g : Gm} {w : Wd} (C : Cx g w RX11 cX11_opennessOf 8 (some .int)) {lv : Nat} (hlv : 1 < lv) {N : Nat} {r5 : Nat → Int → Int → Int → Int → Option Int} {l0 : Nat} {l1 : Int} {l2 : Int} {l3 : Int} {l4 : Int} {m : Mem} {out : Int} (hr5 : ∀ l0 l1 l2 l3 l4, r5 l0 l1 l2 l3 l4 = some out → Jd g w 8 (rmL lv 0 0) (Qm g w (some (vI out)) m) 5 [some (vR l0), some (vI l1), some (vI l2), some (vI l3), some (vI l4), none, none, none] [] 312 m 0 0) (h : X11_opennessOf_L5_b N m r5 l0 l1 l2 l3 l4 = some out) : Jd g w 8 (rmL lv 0 0) (Qm g w (some (vI out)) m) 5 [some (vR l0), some (vI l1), some (vI l2), some (vI l3), some (vI l4), none, none, none] [] 312 m 0 0 := by
  unfold X11_opennessOf_L5_b at h
  refine j_iload C dX11_opennessOf_5 rfl ?_
  refine j_bipush C dX11_opennessOf_7 rfl ?_
  refine j_icmp_ge C 147 dX11_opennessOf_9 rfl h (fun c26 h => ?_) (fun c26 h => ?_)
  · refine j_iload_n C dX11_opennessOf_147 rfl ?_
    exact j_ri C dX11_opennessOf_148 rfl (Option.some.inj h).symm rfl
  · refine j_iload_n C dX11_opennessOf_12 rfl ?_
    refine j_aload_n C dX11_opennessOf_13 rfl ?_
    refine j_getR C dX11_opennessOf_14 CF11 (by decide) fl_X11_54 rfl rfl h (fun t1 h => ?_)
    refine j_aload_n C dX11_opennessOf_17 rfl ?_
    refine j_getI C dX11_opennessOf_18 CF11 (by decide) fl_X11_51 rfl rfl h (fun t2 h => ?_)
    refine j_iald C dX11_opennessOf_21 rfl h (fun t3 h => ?_)
    obtain ⟨c4, h⟩ := ite_none h
    refine j_irem C dX11_opennessOf_22 c4 ?_
    refine j_iload C dX11_opennessOf_23 rfl ?_
    refine j_iconst C dX11_opennessOf_25 rfl ?_
    refine j_irem C dX11_opennessOf_26 (by decide) ?_
    refine j_iadd C dX11_opennessOf_27 ?_
    refine j_iconst C dX11_opennessOf_28 rfl ?_
    refine j_isub C dX11_opennessOf_29 ?_
    refine j_istore (ls' := [some (vR _), some (vI _), some (vI _), some (vI _), some (vI _), some (vI _), none, none]) C dX11_opennessOf_30 (by decide) rfl ?_
    refine j_iload_n C dX11_opennessOf_32 rfl ?_
    refine j_aload_n C dX11_opennessOf_33 rfl ?_
    refine j_getR C dX11_opennessOf_34 CF11 (by decide) fl_X11_54 rfl rfl h (fun t5 h => ?_)
    refine j_aload_n C dX11_opennessOf_37 rfl ?_
    refine j_getI C dX11_opennessOf_38 CF11 (by decide) fl_X11_51 rfl rfl h (fun t6 h => ?_)
    refine j_iald C dX11_opennessOf_41 rfl h (fun t7 h => ?_)
    obtain ⟨c8, h⟩ := ite_none h
    refine j_idiv C dX11_opennessOf_42 c8 ?_
    refine j_iload C dX11_opennessOf_43 rfl ?_
    refine j_iconst C dX11_opennessOf_45 rfl ?_
    refine j_idiv C dX11_opennessOf_46 (by decide) ?_
    refine j_iadd C dX11_opennessOf_47 ?_
    refine j_iconst C dX11_opennessOf_48 rfl ?_
    refine j_isub C dX11_opennessOf_49 ?_
    refine j_istore (ls' := [some (vR _), some (vI _), some (vI _), some (vI _), some (vI _), some (vI _), some (vI _), none]) C dX11_opennessOf_50 (by decide) rfl ?_
    refine j_iload C dX11_opennessOf_52 rfl ?_
    refine j_iconst C dX11_opennessOf_54 rfl ?_
    refine j_aload_n C dX11_opennessOf_55 rfl ?_
    refine j_getR C dX11_opennessOf_56 CF11 (by decide) fl_X11_54 rfl rfl h (fun t9 h => ?_)
    refine j_aload_n C dX11_opennessOf_59 rfl ?_
    refine j_getI C dX11_opennessOf_60 CF11 (by decide) fl_X11_51 rfl rfl h (fun t10 h => ?_)
    refine j_iald C dX11_opennessOf_63 rfl h (fun t11 h => ?_)
    refine j_iconst C dX11_opennessOf_64 rfl ?_
    refine j_isub C dX11_opennessOf_65 ?_
    obtain ⟨p12, ep12, h⟩ := bind_some h
    have qp12 := X11_is_ct ep12
    refine j_cSI C dX11_opennessOf_66 sl_X11_334 qp12 (by omega) rfl rfl (Nat.le_of_ble_eq_true rfl) ?_
    refine j_if_eq C 96 dX11_opennessOf_69 rfl h (fun c25 h => ?_) (fun c25 h => ?_)
    · exact X11_opennessOf_J96_ok C hlv hr5 h
    · refine j_iload C dX11_opennessOf_72 rfl ?_
      refine j_iconst C dX11_opennessOf_74 rfl ?_
      refine j_aload_n C dX11_opennessOf_75 rfl ?_
      refine j_getR C dX11_opennessOf_76 CF11 (by decide) fl_X11_57 rfl rfl h (fun t20 h => ?_)
      refine j_aload_n C dX11_opennessOf_79 rfl ?_
      refine j_getI C dX11_opennessOf_80 CF11 (by decide) fl_X11_51 rfl rfl h (fun t21 h => ?_)
      refine j_iald C dX11_opennessOf_83 rfl h (fun t22 h => ?_)
      refine j_iconst C dX11_opennessOf_84 rfl ?_
      refine j_isub C dX11_opennessOf_85 ?_
      obtain ⟨p23, ep23, h⟩ := bind_some h
      have qp23 := X11_is_ct ep23
      refine j_cSI C dX11_opennessOf_86 sl_X11_334 qp23 (by omega) rfl rfl (Nat.le_of_ble_eq_true rfl) ?_
      refine j_if_eq C 96 dX11_opennessOf_89 rfl h (fun c24 h => ?_) (fun c24 h => ?_)
      · exact X11_opennessOf_J96_ok C hlv hr5 h
      · refine j_iconst C dX11_opennessOf_92 rfl ?_
        refine j_goto C 97 dX11_opennessOf_93 rfl ?_
        exact X11_opennessOf_J97_ok C hlv hr5 h
set_option maxRecDepth 100000 in
set_option maxHeartbeats 4000000 in
theorem X11_opennessOf_L5_ok {g : Gm} {w : Wd} (C : Cx g w RX11 cX11_opennessOf 8 (some .int)) {lv : Nat} (hlv : 1 < lv) {N : Nat} {m : Mem} {out : Int} (f : Nat) : ∀ {l0 : Nat} {l1 : Int} {l2 : Int} {l3 : Int} {l4 : Int}, X11_opennessOf_L5 N m f l0 l1 l2 l3 l4 = some out → Jd g w 8 (rmL lv 0 0) (Qm g w (some (vI out)) m) 5 [some (vR l0), some (vI l1), some (vI l2), some (vI l3), some (vI l4), none, none, none] [] 312 m 0 0 := by
  induction f with
  | zero => intro l0 l1 l2 l3 l4 h; exact none_ne (α := Int) h
  | succ f ih => intro l0 l1 l2 l3 l4 h; exact X11_opennessOf_L5_bok C hlv (fun l0 l1 l2 l3 l4 h => ih h) h
set_option maxRecDepth 100000 in
set_option maxHeartbeats 4000000 in
theorem X11_opennessOf_ct {N : Nat} {l0 : Nat} {l1 : Int} {l2 : Int} {m : Mem} {out : Int} (h : X11_opennessOf N l0 l1 l2 m = some out) : shK l0 = 11 + 10 ∧ CT yX11_opennessOf cX11_opennessOf 8 (some .int) 2 0 0 [vR l0, vI l1, vI l2] 312 m (some (vI out)) 312 m := by
  unfold X11_opennessOf at h
  obtain ⟨hK, h⟩ := ite_some h
  have hlv : 1 < 2 := by decide
  refine ⟨hK, CT.of (by decide +kernel) rfl (Nat.le_of_ble_eq_true rfl) (ls := [some (vR l0), some (vI l1), some (vI l2), none, none, none, none, none]) rfl fun g w C _ => ?_⟩
  refine j_iconst C dX11_opennessOf_0 rfl ?_
  refine j_istore_n (ls' := [some (vR _), some (vI _), some (vI _), some (vI _), none, none, none, none]) C dX11_opennessOf_1 (by decide) rfl ?_
  refine j_iconst C dX11_opennessOf_2 rfl ?_
  refine j_istore (ls' := [some (vR _), some (vI _), some (vI _), some (vI _), some (vI _), none, none, none]) C dX11_opennessOf_3 (by decide) rfl ?_
  exact X11_opennessOf_L5_ok C hlv N h
theorem dX11_nearHouses_0 : decode cX11_nearHouses 0 = .ok (.iconst 0, 1) := by decide +kernel
theorem dX11_nearHouses_1 : decode cX11_nearHouses 1 = .ok (.istore_n 2, 1) := by decide +kernel
theorem dX11_nearHouses_2 : decode cX11_nearHouses 2 = .ok (.iconst 0, 1) := by decide +kernel
theorem dX11_nearHouses_3 : decode cX11_nearHouses 3 = .ok (.istore_n 3, 1) := by decide +kernel
theorem dX11_nearHouses_4 : decode cX11_nearHouses 4 = .ok (.iload_n 3, 1) := by decide +kernel
theorem dX11_nearHouses_5 : decode cX11_nearHouses 5 = .ok (.iconst 4, 1) := by decide +kernel
theorem dX11_nearHouses_6 : decode cX11_nearHouses 6 = .ok (.if_icmp .ge 40, 3) := by decide +kernel
theorem dX11_nearHouses_9 : decode cX11_nearHouses 9 = .ok (.aload_n 0, 1) := by decide +kernel
theorem dX11_nearHouses_10 : decode cX11_nearHouses 10 = .ok (.iload_n 1, 1) := by decide +kernel
theorem dX11_nearHouses_11 : decode cX11_nearHouses 11 = .ok (.iload_n 3, 1) := by decide +kernel
theorem dX11_nearHouses_12 : decode cX11_nearHouses 12 = .ok (.invokevirtual 455, 3) := by decide +kernel
theorem dX11_nearHouses_15 : decode cX11_nearHouses 15 = .ok (.istore 4, 2) := by decide +kernel
theorem dX11_nearHouses_17 : decode cX11_nearHouses 17 = .ok (.iload_n 2, 1) := by decide +kernel
theorem dX11_nearHouses_18 : decode cX11_nearHouses 18 = .ok (.iload 4, 2) := by decide +kernel
theorem dX11_nearHouses_20 : decode cX11_nearHouses 20 = .ok (.iconst (-1), 1) := by decide +kernel
theorem dX11_nearHouses_21 : decode cX11_nearHouses 21 = .ok (.if_icmp .eq 16, 3) := by decide +kernel
theorem dX11_nearHouses_24 : decode cX11_nearHouses 24 = .ok (.aload_n 0, 1) := by decide +kernel
theorem dX11_nearHouses_25 : decode cX11_nearHouses 25 = .ok (.iload 4, 2) := by decide +kernel
theorem dX11_nearHouses_27 : decode cX11_nearHouses 27 = .ok (.invokevirtual 458, 3) := by decide +kernel
theorem dX11_nearHouses_30 : decode cX11_nearHouses 30 = .ok (.ifCond .eq 7, 3) := by decide +kernel
theorem dX11_nearHouses_33 : decode cX11_nearHouses 33 = .ok (.iconst 1, 1) := by decide +kernel
theorem dX11_nearHouses_34 : decode cX11_nearHouses 34 = .ok (.goto 4, 3) := by decide +kernel
theorem dX11_nearHouses_37 : decode cX11_nearHouses 37 = .ok (.iconst 0, 1) := by decide +kernel
theorem dX11_nearHouses_38 : decode cX11_nearHouses 38 = .ok (.iadd, 1) := by decide +kernel
theorem dX11_nearHouses_39 : decode cX11_nearHouses 39 = .ok (.istore_n 2, 1) := by decide +kernel
theorem dX11_nearHouses_40 : decode cX11_nearHouses 40 = .ok (.iinc 3 1, 3) := by decide +kernel
theorem dX11_nearHouses_43 : decode cX11_nearHouses 43 = .ok (.goto (-39), 3) := by decide +kernel
theorem dX11_nearHouses_46 : decode cX11_nearHouses 46 = .ok (.iload_n 2, 1) := by decide +kernel
theorem dX11_nearHouses_47 : decode cX11_nearHouses 47 = .ok (.ireturn, 1) := by decide +kernel
set_option maxRecDepth 100000 in
set_option maxHeartbeats 4000000 in
theorem X11_nearHouses_J38_ok {g : Gm} {w : Wd} (C : Cx g w RX11 cX11_nearHouses 5 (some .int)) {lv : Nat} (hlv : 2 < lv) {N : Nat} {r4 : Nat → Int → Int → Int → Option Int } {l0 : Nat} {l1 : Int} {l3 : Int} {s0 : Int} {s1 : Int} {m : Mem} {out : Int} (hr4 : ∀ l0 l1 l2 l3, r4 l0 l1 l2 l3 = some out → Jd g w 5 (rmL lv 0 0) (Qm g w (some (vI out)) m) 4 [some (vR l0), some (vI l1), some (vI l2), some (vI l3), none] [] 312 m 0 0) (h : X11_nearHouses_J38 N r4 l0 l1 l3 s0 s1 m = some out) : Jd g w 5 (rmL lv 0 0) (Qm g w (some (vI out)) m) 38 [some (vR l0), some (vI l1), none, some (vI l3), none] [vI s1, vI s0] 312 m 0 0 := by
  unfold X11_nearHouses_J38 at h
  refine j_iadd C dX11_nearHouses_38 ?_
  refine j_istore_n (ls' := [some (vR _), some (vI _), some (vI _), some (vI _), none]) C dX11_nearHouses_39 (by decide) rfl ?_
  refine j_iinc (ls' := [some (vR _), some (vI _), some (vI _), some (vI _), none]) C dX11_nearHouses_40 rfl (by decide) rfl ?_
  refine j_goto C 4 dX11_nearHouses_43 rfl ?_
  exact hr4 _ _ _ _ h
set_option maxRecDepth 100000 in
set_option maxHeartbeats 4000000 in
theorem X11_nearHouses_J37_ok {g : Gm} {w : Wd} (C : Cx g w RX11 cX11_nearHouses 5 (some .int)) {lv : Nat} (hlv : 2 < lv) {N : Nat} {r4 : Nat → Int → Int → Int → Option Int } {l0 : Nat} {l1 : Int} {l3 : Int} {s0 : Int} {m : Mem} {out : Int} (hr4 : ∀ l0 l1 l2 l3, r4 l0 l1 l2 l3 = some out → Jd g w 5 (rmL lv 0 0) (Qm g w (some (vI out)) m) 4 [some (vR l0), some (vI l1), some (vI l2), some (vI l3), none] [] 312 m 0 0) (h : X11_nearHouses_J37 N r4 l0 l1 l3 s0 m = some out) : Jd g w 5 (rmL lv 0 0) (Qm g w (some (vI out)) m) 37 [some (vR l0), some (vI l1), none, some (vI l3), none] [vI s0] 312 m 0 0 := by
  unfold X11_nearHouses_J37 at h
  refine j_iconst C dX11_nearHouses_37 rfl ?_
  exact X11_nearHouses_J38_ok C hlv hr4 h
set_option maxRecDepth 100000 in
set_option maxHeartbeats 4000000 in
theorem X11_nearHouses_L4_bok {g : Gm} {w : Wd} (C : Cx g w RX11 cX11_nearHouses 5 (some .int)) {lv : Nat} (hlv : 2 < lv) {N : Nat} {r4 : Nat → Int → Int → Int → Option Int} {l0 : Nat} {l1 : Int} {l2 : Int} {l3 : Int} {m : Mem} {out : Int} (hr4 : ∀ l0 l1 l2 l3, r4 l0 l1 l2 l3 = some out → Jd g w 5 (rmL lv 0 0) (Qm g w (some (vI out)) m) 4 [some (vR l0), some (vI l1), some (vI l2), some (vI l3), none] [] 312 m 0 0) (h : X11_nearHouses_L4_b N m r4 l0 l1 l2 l3 = some out) : Jd g w 5 (rmL lv 0 0) (Qm g w (some (vI out)) m) 4 [some (vR l0), some (vI l1), some (vI l2), some (vI l3), none] [] 312 m 0 0 := by
  unfold X11_nearHouses_L4_b at h
  refine j_iload_n C dX11_nearHouses_4 rfl ?_
  refine j_iconst C dX11_nearHouses_5 rfl ?_
  refine j_icmp_ge C 46 dX11_nearHouses_6 rfl h (fun c5 h => ?_) (fun c5 h => ?_)
  · refine j_iload_n C dX11_nearHouses_46 rfl ?_
    exact j_ri C dX11_nearHouses_47 rfl (Option.some.inj h).symm rfl
  · refine j_aload_n C dX11_nearHouses_9 rfl ?_
    refine j_iload_n C dX11_nearHouses_10 rfl ?_
    refine j_iload_n C dX11_nearHouses_11 rfl ?_
    obtain ⟨p1, ep1, h⟩ := bind_some h
    have qp1 := X11_next_ct ep1
    refine j_cVI C dX11_nearHouses_12 vl_X11_455 CF11 rfl qp1.1 qp1.2 (by omega) rfl rfl (Nat.le_of_ble_eq_true rfl) ?_
    refine j_istore (ls' := [some (vR _), some (vI _), some (vI _), some (vI _), some (vI _)]) C dX11_nearHouses_15 (by decide) rfl ?_
    refine j_iload_n C dX11_nearHouses_17 rfl ?_
    refine j_iload C dX11_nearHouses_18 rfl ?_
    refine j_iconst C dX11_nearHouses_20 rfl ?_
    refine j_icmp_eq C 37 dX11_nearHouses_21 rfl h (fun c4 h => ?_) (fun c4 h => ?_)
    · refine j_mask [true, true, false, true, false] (ls' := [some (vR _), some (vI _), none, some (vI _), none]) rfl ?_
      exact X11_nearHouses_J37_ok C hlv hr4 h
    · refine j_aload_n C dX11_nearHouses_24 rfl ?_
      refine j_iload C dX11_nearHouses_25 rfl ?_
      obtain ⟨p2, ep2, h⟩ := bind_some h
      have qp2 := X11_isHouse_ct ep2
      refine j_cVI C dX11_nearHouses_27 vl_X11_458 CF11 rfl qp2.1 qp2.2 (by omega) rfl rfl (Nat.le_of_ble_eq_true rfl) ?_
      refine j_if_eq C 37 dX11_nearHouses_30 rfl h (fun c3 h => ?_) (fun c3 h => ?_)
      · refine j_mask [true, true, false, true, false] (ls' := [some (vR _), some (vI _), none, some (vI _), none]) rfl ?_
        exact X11_nearHouses_J37_ok C hlv hr4 h
      · refine j_iconst C dX11_nearHouses_33 rfl ?_
        refine j_goto C 38 dX11_nearHouses_34 rfl ?_
        refine j_mask [true, true, false, true, false] (ls' := [some (vR _), some (vI _), none, some (vI _), none]) rfl ?_
        exact X11_nearHouses_J38_ok C hlv hr4 h
set_option maxRecDepth 100000 in
set_option maxHeartbeats 4000000 in
theorem X11_nearHouses_L4_ok {g : Gm} {w : Wd} (C : Cx g w RX11 cX11_nearHouses 5 (some .int)) {lv : Nat} (hlv : 2 < lv) {N : Nat} {m : Mem} {out : Int} (f : Nat) : ∀ {l0 : Nat} {l1 : Int} {l2 : Int} {l3 : Int}, X11_nearHouses_L4 N m f l0 l1 l2 l3 = some out → Jd g w 5 (rmL lv 0 0) (Qm g w (some (vI out)) m) 4 [some (vR l0), some (vI l1), some (vI l2), some (vI l3), none] [] 312 m 0 0 := by
  induction f with
  | zero => intro l0 l1 l2 l3 h; exact none_ne (α := Int) h
  | succ f ih => intro l0 l1 l2 l3 h; exact X11_nearHouses_L4_bok C hlv (fun l0 l1 l2 l3 h => ih h) h
set_option maxRecDepth 100000 in
set_option maxHeartbeats 4000000 in
theorem X11_nearHouses_ct {N : Nat} {l0 : Nat} {l1 : Int} {m : Mem} {out : Int} (h : X11_nearHouses N l0 l1 m = some out) : shK l0 = 11 + 10 ∧ CT yX11_nearHouses cX11_nearHouses 5 (some .int) 3 0 0 [vR l0, vI l1] 312 m (some (vI out)) 312 m := by
  unfold X11_nearHouses at h
  obtain ⟨hK, h⟩ := ite_some h
  have hlv : 2 < 3 := by decide
  refine ⟨hK, CT.of (by decide +kernel) rfl (Nat.le_of_ble_eq_true rfl) (ls := [some (vR l0), some (vI l1), none, none, none]) rfl fun g w C _ => ?_⟩
  refine j_iconst C dX11_nearHouses_0 rfl ?_
  refine j_istore_n (ls' := [some (vR _), some (vI _), some (vI _), none, none]) C dX11_nearHouses_1 (by decide) rfl ?_
  refine j_iconst C dX11_nearHouses_2 rfl ?_
  refine j_istore_n (ls' := [some (vR _), some (vI _), some (vI _), some (vI _), none]) C dX11_nearHouses_3 (by decide) rfl ?_
  exact X11_nearHouses_L4_ok C hlv N h
theorem dX11_part_0 : decode cX11_part 0 = .ok (.aload_n 0, 1) := by decide +kernel
theorem dX11_part_1 : decode cX11_part 1 = .ok (.getfield 170, 3) := by decide +kernel
theorem dX11_part_4 : decode cX11_part 4 = .ok (.bipush 10, 2) := by decide +kernel
theorem dX11_part_6 : decode cX11_part 6 = .ok (.aload_n 0, 1) := by decide +kernel
theorem dX11_part_7 : decode cX11_part 7 = .ok (.getfield 188, 3) := by decide +kernel
theorem dX11_part_10 : decode cX11_part 10 = .ok (.imul, 1) := by decide +kernel
theorem dX11_part_11 : decode cX11_part 11 = .ok (.aload_n 0, 1) := by decide +kernel
theorem dX11_part_12 : decode cX11_part 12 = .ok (.getfield 191, 3) := by decide +kernel
theorem dX11_part_15 : decode cX11_part 15 = .ok (.iadd, 1) := by decide +kernel
theorem dX11_part_16 : decode cX11_part 16 = .ok (.iaload, 1) := by decide +kernel
theorem dX11_part_17 : decode cX11_part 17 = .ok (.istore_n 3, 1) := by decide +kernel
theorem dX11_part_18 : decode cX11_part 18 = .ok (.aload_n 0, 1) := by decide +kernel
theorem dX11_part_19 : decode cX11_part 19 = .ok (.getfield 200, 3) := by decide +kernel
theorem dX11_part_22 : decode cX11_part 22 = .ok (.aload_n 0, 1) := by decide +kernel
theorem dX11_part_23 : decode cX11_part 23 = .ok (.getfield 194, 3) := by decide +kernel
theorem dX11_part_26 : decode cX11_part 26 = .ok (.iconst 1, 1) := by decide +kernel
theorem dX11_part_27 : decode cX11_part 27 = .ok (.isub, 1) := by decide +kernel
theorem dX11_part_28 : decode cX11_part 28 = .ok (.iaload, 1) := by decide +kernel
theorem dX11_part_29 : decode cX11_part 29 = .ok (.istore 4, 2) := by decide +kernel
theorem dX11_part_31 : decode cX11_part 31 = .ok (.iload_n 1, 1) := by decide +kernel
theorem dX11_part_32 : decode cX11_part 32 = .ok (.tableswitch 152 0 9 #[56, 59, 69, 80, 87, 103, 109, 121, 133, 145], 56) := by decide +kernel
theorem dX11_part_88 : decode cX11_part 88 = .ok (.iload_n 2, 1) := by decide +kernel
theorem dX11_part_89 : decode cX11_part 89 = .ok (.i2l, 1) := by decide +kernel
theorem dX11_part_90 : decode cX11_part 90 = .ok (.lreturn, 1) := by decide +kernel
theorem dX11_part_91 : decode cX11_part 91 = .ok (.aload_n 0, 1) := by decide +kernel
theorem dX11_part_92 : decode cX11_part 92 = .ok (.aload_n 0, 1) := by decide +kernel
theorem dX11_part_93 : decode cX11_part 93 = .ok (.getfield 191, 3) := by decide +kernel
theorem dX11_part_96 : decode cX11_part 96 = .ok (.invokevirtual 470, 3) := by decide +kernel
theorem dX11_part_99 : decode cX11_part 99 = .ok (.i2l, 1) := by decide +kernel
theorem dX11_part_100 : decode cX11_part 100 = .ok (.lreturn, 1) := by decide +kernel
theorem dX11_part_101 : decode cX11_part 101 = .ok (.aload_n 0, 1) := by decide +kernel
theorem dX11_part_102 : decode cX11_part 102 = .ok (.aload_n 0, 1) := by decide +kernel
theorem dX11_part_103 : decode cX11_part 103 = .ok (.getfield 188, 3) := by decide +kernel
theorem dX11_part_106 : decode cX11_part 106 = .ok (.iload_n 3, 1) := by decide +kernel
theorem dX11_part_107 : decode cX11_part 107 = .ok (.invokevirtual 473, 3) := by decide +kernel
theorem dX11_part_110 : decode cX11_part 110 = .ok (.i2l, 1) := by decide +kernel
theorem dX11_part_111 : decode cX11_part 111 = .ok (.lreturn, 1) := by decide +kernel
theorem dX11_part_112 : decode cX11_part 112 = .ok (.aload_n 0, 1) := by decide +kernel
theorem dX11_part_113 : decode cX11_part 113 = .ok (.iload_n 3, 1) := by decide +kernel
theorem dX11_part_114 : decode cX11_part 114 = .ok (.invokevirtual 476, 3) := by decide +kernel
theorem dX11_part_117 : decode cX11_part 117 = .ok (.i2l, 1) := by decide +kernel
theorem dX11_part_118 : decode cX11_part 118 = .ok (.lreturn, 1) := by decide +kernel
theorem dX11_part_119 : decode cX11_part 119 = .ok (.aload_n 0, 1) := by decide +kernel
theorem dX11_part_120 : decode cX11_part 120 = .ok (.getfield 203, 3) := by decide +kernel
theorem dX11_part_123 : decode cX11_part 123 = .ok (.bipush 42, 2) := by decide +kernel
theorem dX11_part_125 : decode cX11_part 125 = .ok (.aload_n 0, 1) := by decide +kernel
theorem dX11_part_126 : decode cX11_part 126 = .ok (.getfield 194, 3) := by decide +kernel
theorem dX11_part_129 : decode cX11_part 129 = .ok (.imul, 1) := by decide +kernel
theorem dX11_part_130 : decode cX11_part 130 = .ok (.iload_n 3, 1) := by decide +kernel
theorem dX11_part_131 : decode cX11_part 131 = .ok (.iadd, 1) := by decide +kernel
theorem dX11_part_132 : decode cX11_part 132 = .ok (.iaload, 1) := by decide +kernel
theorem dX11_part_133 : decode cX11_part 133 = .ok (.i2l, 1) := by decide +kernel
theorem dX11_part_134 : decode cX11_part 134 = .ok (.lreturn, 1) := by decide +kernel
theorem dX11_part_135 : decode cX11_part 135 = .ok (.aload_n 0, 1) := by decide +kernel
theorem dX11_part_136 : decode cX11_part 136 = .ok (.getfield 194, 3) := by decide +kernel
theorem dX11_part_139 : decode cX11_part 139 = .ok (.i2l, 1) := by decide +kernel
theorem dX11_part_140 : decode cX11_part 140 = .ok (.lreturn, 1) := by decide +kernel
theorem dX11_part_141 : decode cX11_part 141 = .ok (.iload 4, 2) := by decide +kernel
theorem dX11_part_143 : decode cX11_part 143 = .ok (.iconst 1, 1) := by decide +kernel
theorem dX11_part_144 : decode cX11_part 144 = .ok (.if_icmp .ne 7, 3) := by decide +kernel
theorem dX11_part_147 : decode cX11_part 147 = .ok (.lconst 1, 1) := by decide +kernel
theorem dX11_part_148 : decode cX11_part 148 = .ok (.goto 4, 3) := by decide +kernel
theorem dX11_part_151 : decode cX11_part 151 = .ok (.lconst 0, 1) := by decide +kernel
theorem dX11_part_152 : decode cX11_part 152 = .ok (.lreturn, 1) := by decide +kernel
theorem dX11_part_153 : decode cX11_part 153 = .ok (.iload 4, 2) := by decide +kernel
theorem dX11_part_155 : decode cX11_part 155 = .ok (.iconst 2, 1) := by decide +kernel
theorem dX11_part_156 : decode cX11_part 156 = .ok (.if_icmp .ne 7, 3) := by decide +kernel
theorem dX11_part_159 : decode cX11_part 159 = .ok (.lconst 1, 1) := by decide +kernel
theorem dX11_part_160 : decode cX11_part 160 = .ok (.goto 4, 3) := by decide +kernel
theorem dX11_part_163 : decode cX11_part 163 = .ok (.lconst 0, 1) := by decide +kernel
theorem dX11_part_164 : decode cX11_part 164 = .ok (.lreturn, 1) := by decide +kernel
theorem dX11_part_165 : decode cX11_part 165 = .ok (.iload 4, 2) := by decide +kernel
theorem dX11_part_167 : decode cX11_part 167 = .ok (.iconst 3, 1) := by decide +kernel
theorem dX11_part_168 : decode cX11_part 168 = .ok (.if_icmp .ne 7, 3) := by decide +kernel
theorem dX11_part_171 : decode cX11_part 171 = .ok (.lconst 1, 1) := by decide +kernel
theorem dX11_part_172 : decode cX11_part 172 = .ok (.goto 4, 3) := by decide +kernel
theorem dX11_part_175 : decode cX11_part 175 = .ok (.lconst 0, 1) := by decide +kernel
theorem dX11_part_176 : decode cX11_part 176 = .ok (.lreturn, 1) := by decide +kernel
theorem dX11_part_177 : decode cX11_part 177 = .ok (.aload_n 0, 1) := by decide +kernel
theorem dX11_part_178 : decode cX11_part 178 = .ok (.iload_n 3, 1) := by decide +kernel
theorem dX11_part_179 : decode cX11_part 179 = .ok (.invokevirtual 479, 3) := by decide +kernel
theorem dX11_part_182 : decode cX11_part 182 = .ok (.i2l, 1) := by decide +kernel
theorem dX11_part_183 : decode cX11_part 183 = .ok (.lreturn, 1) := by decide +kernel
theorem dX11_part_184 : decode cX11_part 184 = .ok (.aload_n 0, 1) := by decide +kernel
theorem dX11_part_185 : decode cX11_part 185 = .ok (.getfield 197, 3) := by decide +kernel
theorem dX11_part_188 : decode cX11_part 188 = .ok (.i2l, 1) := by decide +kernel
theorem dX11_part_189 : decode cX11_part 189 = .ok (.lreturn, 1) := by decide +kernel
set_option maxRecDepth 100000 in
set_option maxHeartbeats 4000000 in
theorem X11_part_ct {N : Nat} {l0 : Nat} {l1 : Int} {l2 : Int} {m : Mem} {out : Int} (h : X11_part N l0 l1 l2 m = some out) : shK l0 = 11 + 10 ∧ CT yX11_part cX11_part 5 (some .long) 4 0 0 [vR l0, vI l1, vI l2] 312 m (some (vL out)) 312 m := by
  unfold X11_part at h
  obtain ⟨hK, h⟩ := ite_some h
  have hlv : 3 < 4 := by decide
  refine ⟨hK, CT.of (by decide +kernel) rfl (Nat.le_of_ble_eq_true rfl) (ls := [some (vR l0), some (vI l1), some (vI l2), none, none]) rfl fun g w C _ => ?_⟩
  refine j_aload_n C dX11_part_0 rfl ?_
  refine j_getR C dX11_part_1 CF11 (by decide) fl_X11_170 rfl rfl h (fun t1 h => ?_)
  refine j_bipush C dX11_part_4 rfl ?_
  refine j_aload_n C dX11_part_6 rfl ?_
  refine j_getI C dX11_part_7 CF11 (by decide) fl_X11_188 rfl rfl h (fun t2 h => ?_)
  refine j_imul C dX11_part_10 ?_
  refine j_aload_n C dX11_part_11 rfl ?_
  refine j_getI C dX11_part_12 CF11 (by decide) fl_X11_191 rfl rfl h (fun t3 h => ?_)
  refine j_iadd C dX11_part_15 ?_
  refine j_iald C dX11_part_16 rfl h (fun t4 h => ?_)
  refine j_istore_n (ls' := [some (vR _), some (vI _), some (vI _), some (vI _), none]) C dX11_part_17 (by decide) rfl ?_
  refine j_aload_n C dX11_part_18 rfl ?_
  refine j_getR C dX11_part_19 CF11 (by decide) fl_X11_200 rfl rfl h (fun t5 h => ?_)
  refine j_aload_n C dX11_part_22 rfl ?_
  refine j_getI C dX11_part_23 CF11 (by decide) fl_X11_194 rfl rfl h (fun t6 h => ?_)
  refine j_iconst C dX11_part_26 rfl ?_
  refine j_isub C dX11_part_27 ?_
  refine j_iald C dX11_part_28 rfl h (fun t7 h => ?_)
  refine j_istore (ls' := [some (vR _), some (vI _), some (vI _), some (vI _), some (vI _)]) C dX11_part_29 (by decide) rfl ?_
  refine j_iload_n C dX11_part_31 rfl ?_
  rcases ite_cases h with ⟨c8, h⟩ | ⟨c8, h⟩
  · refine j_tsIn C 88 (0) dX11_part_32 c8 rfl rfl rfl ?_
    refine j_iload_n C dX11_part_88 rfl ?_
    refine j_i2l C dX11_part_89 ?_
    exact j_rl C dX11_part_90 rfl (Option.some.inj h).symm rfl
  rcases ite_cases h with ⟨c11, h⟩ | ⟨c11, h⟩
  · refine j_tsIn C 91 (1) dX11_part_32 c11 rfl rfl rfl ?_
    refine j_aload_n C dX11_part_91 rfl ?_
    refine j_aload_n C dX11_part_92 rfl ?_
    refine j_getI C dX11_part_93 CF11 (by decide) fl_X11_191 rfl rfl h (fun t9 h => ?_)
    obtain ⟨p10, ep10, h⟩ := bind_some h
    have qp10 := X11_takesOf_ct ep10
    refine j_cVI C dX11_part_96 vl_X11_470 CF11 rfl qp10.1 qp10.2 (by omega) rfl rfl (Nat.le_of_ble_eq_true rfl) ?_
    refine j_i2l C dX11_part_99 ?_
    exact j_rl C dX11_part_100 rfl (Option.some.inj h).symm rfl
  rcases ite_cases h with ⟨c14, h⟩ | ⟨c14, h⟩
  · refine j_tsIn C 101 (2) dX11_part_32 c14 rfl rfl rfl ?_
    refine j_aload_n C dX11_part_101 rfl ?_
    refine j_aload_n C dX11_part_102 rfl ?_
    refine j_getI C dX11_part_103 CF11 (by decide) fl_X11_188 rfl rfl h (fun t12 h => ?_)
    refine j_iload_n C dX11_part_106 rfl ?_
    obtain ⟨p13, ep13, h⟩ := bind_some h
    have qp13 := X11_opennessOf_ct ep13
    refine j_cVI C dX11_part_107 vl_X11_473 CF11 rfl qp13.1 qp13.2 (by omega) rfl rfl (Nat.le_of_ble_eq_true rfl) ?_
    refine j_i2l C dX11_part_110 ?_
    exact j_rl C dX11_part_111 rfl (Option.some.inj h).symm rfl
  rcases ite_cases h with ⟨c16, h⟩ | ⟨c16, h⟩
  · refine j_tsIn C 112 (3) dX11_part_32 c16 rfl rfl rfl ?_
    refine j_aload_n C dX11_part_112 rfl ?_
    refine j_iload_n C dX11_part_113 rfl ?_
    obtain ⟨p15, ep15, h⟩ := bind_some h
    have qp15 := X11_heightOf_ct ep15
    refine j_cVI C dX11_part_114 vl_X11_476 CF11 rfl qp15.1 qp15.2 (by omega) rfl rfl (Nat.le_of_ble_eq_true rfl) ?_
    refine j_i2l C dX11_part_117 ?_
    exact j_rl C dX11_part_118 rfl (Option.some.inj h).symm rfl
  rcases ite_cases h with ⟨c20, h⟩ | ⟨c20, h⟩
  · refine j_tsIn C 119 (4) dX11_part_32 c20 rfl rfl rfl ?_
    refine j_aload_n C dX11_part_119 rfl ?_
    refine j_getR C dX11_part_120 CF11 (by decide) fl_X11_203 rfl rfl h (fun t17 h => ?_)
    refine j_bipush C dX11_part_123 rfl ?_
    refine j_aload_n C dX11_part_125 rfl ?_
    refine j_getI C dX11_part_126 CF11 (by decide) fl_X11_194 rfl rfl h (fun t18 h => ?_)
    refine j_imul C dX11_part_129 ?_
    refine j_iload_n C dX11_part_130 rfl ?_
    refine j_iadd C dX11_part_131 ?_
    refine j_iald C dX11_part_132 rfl h (fun t19 h => ?_)
    refine j_i2l C dX11_part_133 ?_
    exact j_rl C dX11_part_134 rfl (Option.some.inj h).symm rfl
  rcases ite_cases h with ⟨c22, h⟩ | ⟨c22, h⟩
  · refine j_tsIn C 135 (5) dX11_part_32 c22 rfl rfl rfl ?_
    refine j_aload_n C dX11_part_135 rfl ?_
    refine j_getI C dX11_part_136 CF11 (by decide) fl_X11_194 rfl rfl h (fun t21 h => ?_)
    refine j_i2l C dX11_part_139 ?_
    exact j_rl C dX11_part_140 rfl (Option.some.inj h).symm rfl
  rcases ite_cases h with ⟨c24, h⟩ | ⟨c24, h⟩
  · refine j_tsIn C 141 (6) dX11_part_32 c24 rfl rfl rfl ?_
    refine j_iload C dX11_part_141 rfl ?_
    refine j_iconst C dX11_part_143 rfl ?_
    refine j_icmp_ne C 151 dX11_part_144 rfl h (fun c23 h => ?_) (fun c23 h => ?_)
    · refine j_lconst (v := 0) C dX11_part_151 rfl rfl ?_
      exact j_rl C dX11_part_152 rfl (Option.some.inj h).symm rfl
    · refine j_lconst (v := 1) C dX11_part_147 rfl rfl ?_
      refine j_goto C 152 dX11_part_148 rfl ?_
      exact j_rl C dX11_part_152 rfl (Option.some.inj h).symm rfl
  rcases ite_cases h with ⟨c26, h⟩ | ⟨c26, h⟩
  · refine j_tsIn C 153 (7) dX11_part_32 c26 rfl rfl rfl ?_
    refine j_iload C dX11_part_153 rfl ?_
    refine j_iconst C dX11_part_155 rfl ?_
    refine j_icmp_ne C 163 dX11_part_156 rfl h (fun c25 h => ?_) (fun c25 h => ?_)
    · refine j_lconst (v := 0) C dX11_part_163 rfl rfl ?_
      exact j_rl C dX11_part_164 rfl (Option.some.inj h).symm rfl
    · refine j_lconst (v := 1) C dX11_part_159 rfl rfl ?_
      refine j_goto C 164 dX11_part_160 rfl ?_
      exact j_rl C dX11_part_164 rfl (Option.some.inj h).symm rfl
  rcases ite_cases h with ⟨c28, h⟩ | ⟨c28, h⟩
  · refine j_tsIn C 165 (8) dX11_part_32 c28 rfl rfl rfl ?_
    refine j_iload C dX11_part_165 rfl ?_
    refine j_iconst C dX11_part_167 rfl ?_
    refine j_icmp_ne C 175 dX11_part_168 rfl h (fun c27 h => ?_) (fun c27 h => ?_)
    · refine j_lconst (v := 0) C dX11_part_175 rfl rfl ?_
      exact j_rl C dX11_part_176 rfl (Option.some.inj h).symm rfl
    · refine j_lconst (v := 1) C dX11_part_171 rfl rfl ?_
      refine j_goto C 176 dX11_part_172 rfl ?_
      exact j_rl C dX11_part_176 rfl (Option.some.inj h).symm rfl
  rcases ite_cases h with ⟨c30, h⟩ | ⟨c30, h⟩
  · refine j_tsIn C 177 (9) dX11_part_32 c30 rfl rfl rfl ?_
    refine j_aload_n C dX11_part_177 rfl ?_
    refine j_iload_n C dX11_part_178 rfl ?_
    obtain ⟨p29, ep29, h⟩ := bind_some h
    have qp29 := X11_nearHouses_ct ep29
    refine j_cVI C dX11_part_179 vl_X11_479 CF11 rfl qp29.1 qp29.2 (by omega) rfl rfl (Nat.le_of_ble_eq_true rfl) ?_
    refine j_i2l C dX11_part_182 ?_
    exact j_rl C dX11_part_183 rfl (Option.some.inj h).symm rfl
  refine j_tsOut C 184 dX11_part_32 (by omega) rfl ?_
  refine j_aload_n C dX11_part_184 rfl ?_
  refine j_getI C dX11_part_185 CF11 (by decide) fl_X11_197 rfl rfl h (fun t31 h => ?_)
  refine j_i2l C dX11_part_188 ?_
  exact j_rl C dX11_part_189 rfl (Option.some.inj h).symm rfl
theorem dX11_held_0 : decode cX11_held 0 = .ok (.lload_n 0, 1) := by decide +kernel
theorem dX11_held_1 : decode cX11_held 1 = .ok (.ldc2_w 482, 3) := by decide +kernel
theorem dX11_held_4 : decode cX11_held 4 = .ok (.lcmp, 1) := by decide +kernel
theorem dX11_held_5 : decode cX11_held 5 = .ok (.ifCond .le 9, 3) := by decide +kernel
theorem dX11_held_8 : decode cX11_held 8 = .ok (.ldc2_w 482, 3) := by decide +kernel
theorem dX11_held_11 : decode cX11_held 11 = .ok (.goto 18, 3) := by decide +kernel
theorem dX11_held_14 : decode cX11_held 14 = .ok (.lload_n 0, 1) := by decide +kernel
theorem dX11_held_15 : decode cX11_held 15 = .ok (.ldc2_w 484, 3) := by decide +kernel
theorem dX11_held_18 : decode cX11_held 18 = .ok (.lcmp, 1) := by decide +kernel
theorem dX11_held_19 : decode cX11_held 19 = .ok (.ifCond .ge 9, 3) := by decide +kernel
theorem dX11_held_22 : decode cX11_held 22 = .ok (.ldc2_w 484, 3) := by decide +kernel
theorem dX11_held_25 : decode cX11_held 25 = .ok (.goto 4, 3) := by decide +kernel
theorem dX11_held_28 : decode cX11_held 28 = .ok (.lload_n 0, 1) := by decide +kernel
theorem dX11_held_29 : decode cX11_held 29 = .ok (.lreturn, 1) := by decide +kernel
set_option maxRecDepth 100000 in
set_option maxHeartbeats 4000000 in
theorem X11_held_ct {l0 : Int} {m : Mem} {out : Int} (h : X11_held l0 m = some out) : CT yX11_held cX11_held 2 (some .long) 1 0 0 [vL l0] 312 m (some (vL out)) 312 m := by
  unfold X11_held at h
  have hlv : 0 < 1 := by decide
  refine CT.of (by decide +kernel) rfl (Nat.le_of_ble_eq_true rfl) (ls := [some (vL l0), none]) rfl fun g w C _ => ?_
  refine j_lload_n C dX11_held_0 rfl ?_
  refine j_ldc2 (v := 1000000) C dX11_held_1 k_X11_482 rfl rfl ?_
  refine j_lcmp C dX11_held_4 ?_
  refine j_if_le C 14 dX11_held_5 rfl h (fun c2 h => ?_) (fun c2 h => ?_)
  · refine j_lload_n C dX11_held_14 rfl ?_
    refine j_ldc2 (v := -1000000) C dX11_held_15 k_X11_484 rfl rfl ?_
    refine j_lcmp C dX11_held_18 ?_
    refine j_if_ge C 28 dX11_held_19 rfl h (fun c1 h => ?_) (fun c1 h => ?_)
    · refine j_lload_n C dX11_held_28 rfl ?_
      exact j_rl C dX11_held_29 rfl (Option.some.inj h).symm rfl
    · refine j_ldc2 (v := -1000000) C dX11_held_22 k_X11_484 rfl rfl ?_
      refine j_goto C 29 dX11_held_25 rfl ?_
      exact j_rl C dX11_held_29 rfl (Option.some.inj h).symm rfl
  · refine j_ldc2 (v := 1000000) C dX11_held_8 k_X11_482 rfl rfl ?_
    refine j_goto C 29 dX11_held_11 rfl ?_
    exact j_rl C dX11_held_29 rfl (Option.some.inj h).symm rfl
theorem dX11_floor_0 : decode cX11_floor 0 = .ok (.lload_n 2, 1) := by decide +kernel
theorem dX11_floor_1 : decode cX11_floor 1 = .ok (.lconst 0, 1) := by decide +kernel
theorem dX11_floor_2 : decode cX11_floor 2 = .ok (.lcmp, 1) := by decide +kernel
theorem dX11_floor_3 : decode cX11_floor 3 = .ok (.ifCond .ne 5, 3) := by decide +kernel
theorem dX11_floor_6 : decode cX11_floor 6 = .ok (.lconst 0, 1) := by decide +kernel
theorem dX11_floor_7 : decode cX11_floor 7 = .ok (.lreturn, 1) := by decide +kernel
theorem dX11_floor_8 : decode cX11_floor 8 = .ok (.lload_n 0, 1) := by decide +kernel
theorem dX11_floor_9 : decode cX11_floor 9 = .ok (.lload_n 2, 1) := by decide +kernel
theorem dX11_floor_10 : decode cX11_floor 10 = .ok (.ldiv, 1) := by decide +kernel
theorem dX11_floor_11 : decode cX11_floor 11 = .ok (.lstore 4, 2) := by decide +kernel
theorem dX11_floor_13 : decode cX11_floor 13 = .ok (.lload_n 0, 1) := by decide +kernel
theorem dX11_floor_14 : decode cX11_floor 14 = .ok (.lload_n 2, 1) := by decide +kernel
theorem dX11_floor_15 : decode cX11_floor 15 = .ok (.lrem, 1) := by decide +kernel
theorem dX11_floor_16 : decode cX11_floor 16 = .ok (.lconst 0, 1) := by decide +kernel
theorem dX11_floor_17 : decode cX11_floor 17 = .ok (.lcmp, 1) := by decide +kernel
theorem dX11_floor_18 : decode cX11_floor 18 = .ok (.ifCond .eq 35, 3) := by decide +kernel
theorem dX11_floor_21 : decode cX11_floor 21 = .ok (.lload_n 0, 1) := by decide +kernel
theorem dX11_floor_22 : decode cX11_floor 22 = .ok (.lconst 0, 1) := by decide +kernel
theorem dX11_floor_23 : decode cX11_floor 23 = .ok (.lcmp, 1) := by decide +kernel
theorem dX11_floor_24 : decode cX11_floor 24 = .ok (.ifCond .ge 7, 3) := by decide +kernel
theorem dX11_floor_27 : decode cX11_floor 27 = .ok (.iconst 1, 1) := by decide +kernel
theorem dX11_floor_28 : decode cX11_floor 28 = .ok (.goto 4, 3) := by decide +kernel
theorem dX11_floor_31 : decode cX11_floor 31 = .ok (.iconst 0, 1) := by decide +kernel
theorem dX11_floor_32 : decode cX11_floor 32 = .ok (.lload_n 2, 1) := by decide +kernel
theorem dX11_floor_33 : decode cX11_floor 33 = .ok (.lconst 0, 1) := by decide +kernel
theorem dX11_floor_34 : decode cX11_floor 34 = .ok (.lcmp, 1) := by decide +kernel
theorem dX11_floor_35 : decode cX11_floor 35 = .ok (.ifCond .ge 7, 3) := by decide +kernel
theorem dX11_floor_38 : decode cX11_floor 38 = .ok (.iconst 1, 1) := by decide +kernel
theorem dX11_floor_39 : decode cX11_floor 39 = .ok (.goto 4, 3) := by decide +kernel
theorem dX11_floor_42 : decode cX11_floor 42 = .ok (.iconst 0, 1) := by decide +kernel
theorem dX11_floor_43 : decode cX11_floor 43 = .ok (.if_icmp .eq 10, 3) := by decide +kernel
theorem dX11_floor_46 : decode cX11_floor 46 = .ok (.lload 4, 2) := by decide +kernel
theorem dX11_floor_48 : decode cX11_floor 48 = .ok (.lconst 1, 1) := by decide +kernel
theorem dX11_floor_49 : decode cX11_floor 49 = .ok (.lsub, 1) := by decide +kernel
theorem dX11_floor_50 : decode cX11_floor 50 = .ok (.goto 5, 3) := by decide +kernel
theorem dX11_floor_53 : decode cX11_floor 53 = .ok (.lload 4, 2) := by decide +kernel
theorem dX11_floor_55 : decode cX11_floor 55 = .ok (.lreturn, 1) := by decide +kernel
set_option maxRecDepth 100000 in
set_option maxHeartbeats 4000000 in
theorem X11_floor_J43_ok {g : Gm} {w : Wd} (C : Cx g w RX11 cX11_floor 6 (some .long)) {lv : Nat} (hlv : 0 < lv) {l4 : Int} {s0 : Int} {s1 : Int} {m : Mem} {out : Int} (h : X11_floor_J43 l4 s0 s1 m = some out) : Jd g w 6 (rmL lv 0 0) (Qm g w (some (vL out)) m) 43 [none, none, none, none, some (vL l4), none] [vI s1, vI s0] 312 m 0 0 := by
  unfold X11_floor_J43 at h
  refine j_icmp_eq C 53 dX11_floor_43 rfl h (fun c3 h => ?_) (fun c3 h => ?_)
  · refine j_lload C dX11_floor_53 rfl ?_
    exact j_rl C dX11_floor_55 rfl (Option.some.inj h).symm rfl
  · refine j_lload C dX11_floor_46 rfl ?_
    refine j_lconst (v := 1) C dX11_floor_48 rfl rfl ?_
    refine j_lsub C dX11_floor_49 ?_
    refine j_goto C 55 dX11_floor_50 rfl ?_
    exact j_rl C dX11_floor_55 rfl (Option.some.inj h).symm rfl
set_option maxRecDepth 100000 in
set_option maxHeartbeats 4000000 in
theorem X11_floor_J32_ok {g : Gm} {w : Wd} (C : Cx g w RX11 cX11_floor 6 (some .long)) {lv : Nat} (hlv : 0 < lv) {l2 : Int} {l4 : Int} {s0 : Int} {m : Mem} {out : Int} (h : X11_floor_J32 l2 l4 s0 m = some out) : Jd g w 6 (rmL lv 0 0) (Qm g w (some (vL out)) m) 32 [none, none, some (vL l2), none, some (vL l4), none] [vI s0] 312 m 0 0 := by
  unfold X11_floor_J32 at h
  refine j_lload_n C dX11_floor_32 rfl ?_
  refine j_lconst (v := 0) C dX11_floor_33 rfl rfl ?_
  refine j_lcmp C dX11_floor_34 ?_
  refine j_if_ge C 42 dX11_floor_35 rfl h (fun c4 h => ?_) (fun c4 h => ?_)
  · refine j_iconst C dX11_floor_42 rfl ?_
    refine j_mask [false, false, false, false, true, false] (ls' := [none, none, none, none, some (vL _), none]) rfl ?_
    exact X11_floor_J43_ok C hlv h
  · refine j_iconst C dX11_floor_38 rfl ?_
    refine j_goto C 43 dX11_floor_39 rfl ?_
    refine j_mask [false, false, false, false, true, false] (ls' := [none, none, none, none, some (vL _), none]) rfl ?_
    exact X11_floor_J43_ok C hlv h
set_option maxRecDepth 100000 in
set_option maxHeartbeats 4000000 in
theorem X11_floor_ct {l0 : Int} {l2 : Int} {m : Mem} {out : Int} (h : X11_floor l0 l2 m = some out) : CT yX11_floor cX11_floor 6 (some .long) 1 0 0 [vL l0, vL l2] 312 m (some (vL out)) 312 m := by
  unfold X11_floor at h
  have hlv : 0 < 1 := by decide
  refine CT.of (by decide +kernel) rfl (Nat.le_of_ble_eq_true rfl) (ls := [some (vL l0), none, some (vL l2), none, none, none]) rfl fun g w C _ => ?_
  refine j_lload_n C dX11_floor_0 rfl ?_
  refine j_lconst (v := 0) C dX11_floor_1 rfl rfl ?_
  refine j_lcmp C dX11_floor_2 ?_
  refine j_if_ne C 8 dX11_floor_3 rfl h (fun c7 h => ?_) (fun c7 h => ?_)
  · refine j_lload_n C dX11_floor_8 rfl ?_
    refine j_lload_n C dX11_floor_9 rfl ?_
    obtain ⟨c1, h⟩ := ite_none h
    refine j_ldiv C dX11_floor_10 c1 ?_
    refine j_lstore (ls' := [some (vL _), none, some (vL _), none, some (vL _), none]) C dX11_floor_11 (by decide) rfl ?_
    refine j_lload_n C dX11_floor_13 rfl ?_
    refine j_lload_n C dX11_floor_14 rfl ?_
    obtain ⟨c2, h⟩ := ite_none h
    refine j_lrem C dX11_floor_15 c2 ?_
    refine j_lconst (v := 0) C dX11_floor_16 rfl rfl ?_
    refine j_lcmp C dX11_floor_17 ?_
    refine j_if_eq C 53 dX11_floor_18 rfl h (fun c6 h => ?_) (fun c6 h => ?_)
    · refine j_lload C dX11_floor_53 rfl ?_
      exact j_rl C dX11_floor_55 rfl (Option.some.inj h).symm rfl
    · refine j_lload_n C dX11_floor_21 rfl ?_
      refine j_lconst (v := 0) C dX11_floor_22 rfl rfl ?_
      refine j_lcmp C dX11_floor_23 ?_
      refine j_if_ge C 31 dX11_floor_24 rfl h (fun c5 h => ?_) (fun c5 h => ?_)
      · refine j_iconst C dX11_floor_31 rfl ?_
        refine j_mask [false, false, true, false, true, false] (ls' := [none, none, some (vL _), none, some (vL _), none]) rfl ?_
        exact X11_floor_J32_ok C hlv h
      · refine j_iconst C dX11_floor_27 rfl ?_
        refine j_goto C 32 dX11_floor_28 rfl ?_
        refine j_mask [false, false, true, false, true, false] (ls' := [none, none, some (vL _), none, some (vL _), none]) rfl ?_
        exact X11_floor_J32_ok C hlv h
  · refine j_lconst (v := 0) C dX11_floor_6 rfl rfl ?_
    exact j_rl C dX11_floor_7 rfl (Option.some.inj h).symm rfl
theorem dX11_two_0 : decode cX11_two 0 = .ok (.iload_n 0, 1) := by decide +kernel
theorem dX11_two_1 : decode cX11_two 1 = .ok (.tableswitch 104 10 15 #[39, 46, 53, 60, 69, 92], 39) := by decide +kernel
theorem dX11_two_40 : decode cX11_two 40 = .ok (.lload_n 1, 1) := by decide +kernel
theorem dX11_two_41 : decode cX11_two 41 = .ok (.lload_n 3, 1) := by decide +kernel
theorem dX11_two_42 : decode cX11_two 42 = .ok (.ladd, 1) := by decide +kernel
theorem dX11_two_43 : decode cX11_two 43 = .ok (.invokestatic 486, 3) := by decide +kernel
theorem dX11_two_46 : decode cX11_two 46 = .ok (.lreturn, 1) := by decide +kernel
theorem dX11_two_47 : decode cX11_two 47 = .ok (.lload_n 1, 1) := by decide +kernel
theorem dX11_two_48 : decode cX11_two 48 = .ok (.lload_n 3, 1) := by decide +kernel
theorem dX11_two_49 : decode cX11_two 49 = .ok (.lsub, 1) := by decide +kernel
theorem dX11_two_50 : decode cX11_two 50 = .ok (.invokestatic 486, 3) := by decide +kernel
theorem dX11_two_53 : decode cX11_two 53 = .ok (.lreturn, 1) := by decide +kernel
theorem dX11_two_54 : decode cX11_two 54 = .ok (.lload_n 1, 1) := by decide +kernel
theorem dX11_two_55 : decode cX11_two 55 = .ok (.lload_n 3, 1) := by decide +kernel
theorem dX11_two_56 : decode cX11_two 56 = .ok (.lmul, 1) := by decide +kernel
theorem dX11_two_57 : decode cX11_two 57 = .ok (.invokestatic 486, 3) := by decide +kernel
theorem dX11_two_60 : decode cX11_two 60 = .ok (.lreturn, 1) := by decide +kernel
theorem dX11_two_61 : decode cX11_two 61 = .ok (.lload_n 1, 1) := by decide +kernel
theorem dX11_two_62 : decode cX11_two 62 = .ok (.lload_n 3, 1) := by decide +kernel
theorem dX11_two_63 : decode cX11_two 63 = .ok (.invokestatic 490, 3) := by decide +kernel
theorem dX11_two_66 : decode cX11_two 66 = .ok (.invokestatic 486, 3) := by decide +kernel
theorem dX11_two_69 : decode cX11_two 69 = .ok (.lreturn, 1) := by decide +kernel
theorem dX11_two_70 : decode cX11_two 70 = .ok (.lload_n 3, 1) := by decide +kernel
theorem dX11_two_71 : decode cX11_two 71 = .ok (.lconst 0, 1) := by decide +kernel
theorem dX11_two_72 : decode cX11_two 72 = .ok (.lcmp, 1) := by decide +kernel
theorem dX11_two_73 : decode cX11_two 73 = .ok (.ifCond .ne 7, 3) := by decide +kernel
theorem dX11_two_76 : decode cX11_two 76 = .ok (.lconst 0, 1) := by decide +kernel
theorem dX11_two_77 : decode cX11_two 77 = .ok (.goto 15, 3) := by decide +kernel
theorem dX11_two_80 : decode cX11_two 80 = .ok (.lload_n 1, 1) := by decide +kernel
theorem dX11_two_81 : decode cX11_two 81 = .ok (.lload_n 3, 1) := by decide +kernel
theorem dX11_two_82 : decode cX11_two 82 = .ok (.lload_n 1, 1) := by decide +kernel
theorem dX11_two_83 : decode cX11_two 83 = .ok (.lload_n 3, 1) := by decide +kernel
theorem dX11_two_84 : decode cX11_two 84 = .ok (.invokestatic 490, 3) := by decide +kernel
theorem dX11_two_87 : decode cX11_two 87 = .ok (.lmul, 1) := by decide +kernel
theorem dX11_two_88 : decode cX11_two 88 = .ok (.lsub, 1) := by decide +kernel
theorem dX11_two_89 : decode cX11_two 89 = .ok (.invokestatic 486, 3) := by decide +kernel
theorem dX11_two_92 : decode cX11_two 92 = .ok (.lreturn, 1) := by decide +kernel
theorem dX11_two_93 : decode cX11_two 93 = .ok (.lload_n 1, 1) := by decide +kernel
theorem dX11_two_94 : decode cX11_two 94 = .ok (.lload_n 3, 1) := by decide +kernel
theorem dX11_two_95 : decode cX11_two 95 = .ok (.lcmp, 1) := by decide +kernel
theorem dX11_two_96 : decode cX11_two 96 = .ok (.ifCond .ge 7, 3) := by decide +kernel
theorem dX11_two_99 : decode cX11_two 99 = .ok (.lload_n 1, 1) := by decide +kernel
theorem dX11_two_100 : decode cX11_two 100 = .ok (.goto 4, 3) := by decide +kernel
theorem dX11_two_103 : decode cX11_two 103 = .ok (.lload_n 3, 1) := by decide +kernel
theorem dX11_two_104 : decode cX11_two 104 = .ok (.lreturn, 1) := by decide +kernel
theorem dX11_two_105 : decode cX11_two 105 = .ok (.lload_n 1, 1) := by decide +kernel
theorem dX11_two_106 : decode cX11_two 106 = .ok (.lload_n 3, 1) := by decide +kernel
theorem dX11_two_107 : decode cX11_two 107 = .ok (.lcmp, 1) := by decide +kernel
theorem dX11_two_108 : decode cX11_two 108 = .ok (.ifCond .le 7, 3) := by decide +kernel
theorem dX11_two_111 : decode cX11_two 111 = .ok (.lload_n 1, 1) := by decide +kernel
theorem dX11_two_112 : decode cX11_two 112 = .ok (.goto 4, 3) := by decide +kernel
theorem dX11_two_115 : decode cX11_two 115 = .ok (.lload_n 3, 1) := by decide +kernel
theorem dX11_two_116 : decode cX11_two 116 = .ok (.lreturn, 1) := by decide +kernel
set_option maxRecDepth 100000 in
set_option maxHeartbeats 4000000 in
theorem X11_two_ct {l0 : Int} {l1 : Int} {l3 : Int} {m : Mem} {out : Int} (h : X11_two l0 l1 l3 m = some out) : CT yX11_two cX11_two 5 (some .long) 2 0 0 [vI l0, vL l1, vL l3] 312 m (some (vL out)) 312 m := by
  unfold X11_two at h
  have hlv : 1 < 2 := by decide
  refine CT.of (by decide +kernel) rfl (Nat.le_of_ble_eq_true rfl) (ls := [some (vI l0), some (vL l1), none, some (vL l3), none]) rfl fun g w C _ => ?_
  refine j_iload_n C dX11_two_0 rfl ?_
  rcases ite_cases h with ⟨c2, h⟩ | ⟨c2, h⟩
  · refine j_tsIn C 40 (10) dX11_two_1 c2 rfl rfl rfl ?_
    refine j_lload_n C dX11_two_40 rfl ?_
    refine j_lload_n C dX11_two_41 rfl ?_
    refine j_ladd C dX11_two_42 ?_
    obtain ⟨p1, ep1, h⟩ := bind_some h
    have qp1 := X11_held_ct ep1
    refine j_cSL C dX11_two_43 sl_X11_486 qp1 (by omega) rfl rfl (Nat.le_of_ble_eq_true rfl) ?_
    exact j_rl C dX11_two_46 rfl (Option.some.inj h).symm rfl
  rcases ite_cases h with ⟨c4, h⟩ | ⟨c4, h⟩
  · refine j_tsIn C 47 (11) dX11_two_1 c4 rfl rfl rfl ?_
    refine j_lload_n C dX11_two_47 rfl ?_
    refine j_lload_n C dX11_two_48 rfl ?_
    refine j_lsub C dX11_two_49 ?_
    obtain ⟨p3, ep3, h⟩ := bind_some h
    have qp3 := X11_held_ct ep3
    refine j_cSL C dX11_two_50 sl_X11_486 qp3 (by omega) rfl rfl (Nat.le_of_ble_eq_true rfl) ?_
    exact j_rl C dX11_two_53 rfl (Option.some.inj h).symm rfl
  rcases ite_cases h with ⟨c6, h⟩ | ⟨c6, h⟩
  · refine j_tsIn C 54 (12) dX11_two_1 c6 rfl rfl rfl ?_
    refine j_lload_n C dX11_two_54 rfl ?_
    refine j_lload_n C dX11_two_55 rfl ?_
    refine j_lmul C dX11_two_56 ?_
    obtain ⟨p5, ep5, h⟩ := bind_some h
    have qp5 := X11_held_ct ep5
    refine j_cSL C dX11_two_57 sl_X11_486 qp5 (by omega) rfl rfl (Nat.le_of_ble_eq_true rfl) ?_
    exact j_rl C dX11_two_60 rfl (Option.some.inj h).symm rfl
  rcases ite_cases h with ⟨c9, h⟩ | ⟨c9, h⟩
  · refine j_tsIn C 61 (13) dX11_two_1 c9 rfl rfl rfl ?_
    refine j_lload_n C dX11_two_61 rfl ?_
    refine j_lload_n C dX11_two_62 rfl ?_
    obtain ⟨p7, ep7, h⟩ := bind_some h
    have qp7 := X11_floor_ct ep7
    refine j_cSL C dX11_two_63 sl_X11_490 qp7 (by omega) rfl rfl (Nat.le_of_ble_eq_true rfl) ?_
    obtain ⟨p8, ep8, h⟩ := bind_some h
    have qp8 := X11_held_ct ep8
    refine j_cSL C dX11_two_66 sl_X11_486 qp8 (by omega) rfl rfl (Nat.le_of_ble_eq_true rfl) ?_
    exact j_rl C dX11_two_69 rfl (Option.some.inj h).symm rfl
  rcases ite_cases h with ⟨c13, h⟩ | ⟨c13, h⟩
  · refine j_tsIn C 70 (14) dX11_two_1 c13 rfl rfl rfl ?_
    refine j_lload_n C dX11_two_70 rfl ?_
    refine j_lconst (v := 0) C dX11_two_71 rfl rfl ?_
    refine j_lcmp C dX11_two_72 ?_
    refine j_if_ne C 80 dX11_two_73 rfl h (fun c12 h => ?_) (fun c12 h => ?_)
    · refine j_lload_n C dX11_two_80 rfl ?_
      refine j_lload_n C dX11_two_81 rfl ?_
      refine j_lload_n C dX11_two_82 rfl ?_
      refine j_lload_n C dX11_two_83 rfl ?_
      obtain ⟨p10, ep10, h⟩ := bind_some h
      have qp10 := X11_floor_ct ep10
      refine j_cSL C dX11_two_84 sl_X11_490 qp10 (by omega) rfl rfl (Nat.le_of_ble_eq_true rfl) ?_
      refine j_lmul C dX11_two_87 ?_
      refine j_lsub C dX11_two_88 ?_
      obtain ⟨p11, ep11, h⟩ := bind_some h
      have qp11 := X11_held_ct ep11
      refine j_cSL C dX11_two_89 sl_X11_486 qp11 (by omega) rfl rfl (Nat.le_of_ble_eq_true rfl) ?_
      exact j_rl C dX11_two_92 rfl (Option.some.inj h).symm rfl
    · refine j_lconst (v := 0) C dX11_two_76 rfl rfl ?_
      refine j_goto C 92 dX11_two_77 rfl ?_
      exact j_rl C dX11_two_92 rfl (Option.some.inj h).symm rfl
  rcases ite_cases h with ⟨c15, h⟩ | ⟨c15, h⟩
  · refine j_tsIn C 93 (15) dX11_two_1 c15 rfl rfl rfl ?_
    refine j_lload_n C dX11_two_93 rfl ?_
    refine j_lload_n C dX11_two_94 rfl ?_
    refine j_lcmp C dX11_two_95 ?_
    refine j_if_ge C 103 dX11_two_96 rfl h (fun c14 h => ?_) (fun c14 h => ?_)
    · refine j_lload_n C dX11_two_103 rfl ?_
      exact j_rl C dX11_two_104 rfl (Option.some.inj h).symm rfl
    · refine j_lload_n C dX11_two_99 rfl ?_
      refine j_goto C 104 dX11_two_100 rfl ?_
      exact j_rl C dX11_two_104 rfl (Option.some.inj h).symm rfl
  refine j_tsOut C 105 dX11_two_1 (by omega) rfl ?_
  refine j_lload_n C dX11_two_105 rfl ?_
  refine j_lload_n C dX11_two_106 rfl ?_
  refine j_lcmp C dX11_two_107 ?_
  refine j_if_le C 115 dX11_two_108 rfl h (fun c16 h => ?_) (fun c16 h => ?_)
  · refine j_lload_n C dX11_two_115 rfl ?_
    exact j_rl C dX11_two_116 rfl (Option.some.inj h).symm rfl
  · refine j_lload_n C dX11_two_111 rfl ?_
    refine j_goto C 116 dX11_two_112 rfl ?_
    exact j_rl C dX11_two_116 rfl (Option.some.inj h).symm rfl
theorem dX11_sumOf_0 : decode cX11_sumOf 0 = .ok (.iconst 0, 1) := by decide +kernel
theorem dX11_sumOf_1 : decode cX11_sumOf 1 = .ok (.istore 4, 2) := by decide +kernel
theorem dX11_sumOf_3 : decode cX11_sumOf 3 = .ok (.sipush 1600, 3) := by decide +kernel
theorem dX11_sumOf_6 : decode cX11_sumOf 6 = .ok (.aload_n 0, 1) := by decide +kernel
theorem dX11_sumOf_7 : decode cX11_sumOf 7 = .ok (.getfield 51, 3) := by decide +kernel
theorem dX11_sumOf_10 : decode cX11_sumOf 10 = .ok (.imul, 1) := by decide +kernel
theorem dX11_sumOf_11 : decode cX11_sumOf 11 = .ok (.iload_n 1, 1) := by decide +kernel
theorem dX11_sumOf_12 : decode cX11_sumOf 12 = .ok (.iadd, 1) := by decide +kernel
theorem dX11_sumOf_13 : decode cX11_sumOf 13 = .ok (.istore 5, 2) := by decide +kernel
theorem dX11_sumOf_15 : decode cX11_sumOf 15 = .ok (.iload 5, 2) := by decide +kernel
theorem dX11_sumOf_17 : decode cX11_sumOf 17 = .ok (.sipush 1600, 3) := by decide +kernel
theorem dX11_sumOf_20 : decode cX11_sumOf 20 = .ok (.aload_n 0, 1) := by decide +kernel
theorem dX11_sumOf_21 : decode cX11_sumOf 21 = .ok (.getfield 51, 3) := by decide +kernel
theorem dX11_sumOf_24 : decode cX11_sumOf 24 = .ok (.imul, 1) := by decide +kernel
theorem dX11_sumOf_25 : decode cX11_sumOf 25 = .ok (.iload_n 2, 1) := by decide +kernel
theorem dX11_sumOf_26 : decode cX11_sumOf 26 = .ok (.iadd, 1) := by decide +kernel
theorem dX11_sumOf_27 : decode cX11_sumOf 27 = .ok (.if_icmp .ge 91, 3) := by decide +kernel
theorem dX11_sumOf_30 : decode cX11_sumOf 30 = .ok (.aload_n 0, 1) := by decide +kernel
theorem dX11_sumOf_31 : decode cX11_sumOf 31 = .ok (.getfield 117, 3) := by decide +kernel
theorem dX11_sumOf_34 : decode cX11_sumOf 34 = .ok (.iload 5, 2) := by decide +kernel
theorem dX11_sumOf_36 : decode cX11_sumOf 36 = .ok (.iaload, 1) := by decide +kernel
theorem dX11_sumOf_37 : decode cX11_sumOf 37 = .ok (.istore 6, 2) := by decide +kernel
theorem dX11_sumOf_39 : decode cX11_sumOf 39 = .ok (.iload 6, 2) := by decide +kernel
theorem dX11_sumOf_41 : decode cX11_sumOf 41 = .ok (.bipush 10, 2) := by decide +kernel
theorem dX11_sumOf_43 : decode cX11_sumOf 43 = .ok (.if_icmp .lt 10, 3) := by decide +kernel
theorem dX11_sumOf_46 : decode cX11_sumOf 46 = .ok (.iload 6, 2) := by decide +kernel
theorem dX11_sumOf_48 : decode cX11_sumOf 48 = .ok (.bipush 30, 2) := by decide +kernel
theorem dX11_sumOf_50 : decode cX11_sumOf 50 = .ok (.if_icmp .ne 29, 3) := by decide +kernel
theorem dX11_sumOf_53 : decode cX11_sumOf 53 = .ok (.aload_n 0, 1) := by decide +kernel
theorem dX11_sumOf_54 : decode cX11_sumOf 54 = .ok (.getfield 185, 3) := by decide +kernel
theorem dX11_sumOf_57 : decode cX11_sumOf 57 = .ok (.iload 4, 2) := by decide +kernel
theorem dX11_sumOf_59 : decode cX11_sumOf 59 = .ok (.aload_n 0, 1) := by decide +kernel
theorem dX11_sumOf_60 : decode cX11_sumOf 60 = .ok (.iload 6, 2) := by decide +kernel
theorem dX11_sumOf_62 : decode cX11_sumOf 62 = .ok (.aload_n 0, 1) := by decide +kernel
theorem dX11_sumOf_63 : decode cX11_sumOf 63 = .ok (.getfield 120, 3) := by decide +kernel
theorem dX11_sumOf_66 : decode cX11_sumOf 66 = .ok (.iload 5, 2) := by decide +kernel
theorem dX11_sumOf_68 : decode cX11_sumOf 68 = .ok (.iaload, 1) := by decide +kernel
theorem dX11_sumOf_69 : decode cX11_sumOf 69 = .ok (.invokevirtual 494, 3) := by decide +kernel
theorem dX11_sumOf_72 : decode cX11_sumOf 72 = .ok (.lastore, 1) := by decide +kernel
theorem dX11_sumOf_73 : decode cX11_sumOf 73 = .ok (.iinc 4 1, 3) := by decide +kernel
theorem dX11_sumOf_76 : decode cX11_sumOf 76 = .ok (.goto 36, 3) := by decide +kernel
theorem dX11_sumOf_79 : decode cX11_sumOf 79 = .ok (.iinc 4 (-1), 3) := by decide +kernel
theorem dX11_sumOf_82 : decode cX11_sumOf 82 = .ok (.aload_n 0, 1) := by decide +kernel
theorem dX11_sumOf_83 : decode cX11_sumOf 83 = .ok (.getfield 185, 3) := by decide +kernel
theorem dX11_sumOf_86 : decode cX11_sumOf 86 = .ok (.iload 4, 2) := by decide +kernel
theorem dX11_sumOf_88 : decode cX11_sumOf 88 = .ok (.iconst 1, 1) := by decide +kernel
theorem dX11_sumOf_89 : decode cX11_sumOf 89 = .ok (.isub, 1) := by decide +kernel
theorem dX11_sumOf_90 : decode cX11_sumOf 90 = .ok (.iload 6, 2) := by decide +kernel
theorem dX11_sumOf_92 : decode cX11_sumOf 92 = .ok (.aload_n 0, 1) := by decide +kernel
theorem dX11_sumOf_93 : decode cX11_sumOf 93 = .ok (.getfield 185, 3) := by decide +kernel
theorem dX11_sumOf_96 : decode cX11_sumOf 96 = .ok (.iload 4, 2) := by decide +kernel
theorem dX11_sumOf_98 : decode cX11_sumOf 98 = .ok (.iconst 1, 1) := by decide +kernel
theorem dX11_sumOf_99 : decode cX11_sumOf 99 = .ok (.isub, 1) := by decide +kernel
theorem dX11_sumOf_100 : decode cX11_sumOf 100 = .ok (.laload, 1) := by decide +kernel
theorem dX11_sumOf_101 : decode cX11_sumOf 101 = .ok (.aload_n 0, 1) := by decide +kernel
theorem dX11_sumOf_102 : decode cX11_sumOf 102 = .ok (.getfield 185, 3) := by decide +kernel
theorem dX11_sumOf_105 : decode cX11_sumOf 105 = .ok (.iload 4, 2) := by decide +kernel
theorem dX11_sumOf_107 : decode cX11_sumOf 107 = .ok (.laload, 1) := by decide +kernel
theorem dX11_sumOf_108 : decode cX11_sumOf 108 = .ok (.invokestatic 498, 3) := by decide +kernel
theorem dX11_sumOf_111 : decode cX11_sumOf 111 = .ok (.lastore, 1) := by decide +kernel
theorem dX11_sumOf_112 : decode cX11_sumOf 112 = .ok (.iinc 5 1, 3) := by decide +kernel
theorem dX11_sumOf_115 : decode cX11_sumOf 115 = .ok (.goto (-100), 3) := by decide +kernel
theorem dX11_sumOf_118 : decode cX11_sumOf 118 = .ok (.aload_n 0, 1) := by decide +kernel
theorem dX11_sumOf_119 : decode cX11_sumOf 119 = .ok (.getfield 185, 3) := by decide +kernel
theorem dX11_sumOf_122 : decode cX11_sumOf 122 = .ok (.iconst 0, 1) := by decide +kernel
theorem dX11_sumOf_123 : decode cX11_sumOf 123 = .ok (.laload, 1) := by decide +kernel
theorem dX11_sumOf_124 : decode cX11_sumOf 124 = .ok (.lconst 0, 1) := by decide +kernel
theorem dX11_sumOf_125 : decode cX11_sumOf 125 = .ok (.lcmp, 1) := by decide +kernel
theorem dX11_sumOf_126 : decode cX11_sumOf 126 = .ok (.ifCond .ge 7, 3) := by decide +kernel
theorem dX11_sumOf_129 : decode cX11_sumOf 129 = .ok (.iconst 0, 1) := by decide +kernel
theorem dX11_sumOf_130 : decode cX11_sumOf 130 = .ok (.goto 26, 3) := by decide +kernel
theorem dX11_sumOf_133 : decode cX11_sumOf 133 = .ok (.aload_n 0, 1) := by decide +kernel
theorem dX11_sumOf_134 : decode cX11_sumOf 134 = .ok (.getfield 185, 3) := by decide +kernel
theorem dX11_sumOf_137 : decode cX11_sumOf 137 = .ok (.iconst 0, 1) := by decide +kernel
theorem dX11_sumOf_138 : decode cX11_sumOf 138 = .ok (.laload, 1) := by decide +kernel
theorem dX11_sumOf_139 : decode cX11_sumOf 139 = .ok (.iload_n 3, 1) := by decide +kernel
theorem dX11_sumOf_140 : decode cX11_sumOf 140 = .ok (.i2l, 1) := by decide +kernel
theorem dX11_sumOf_141 : decode cX11_sumOf 141 = .ok (.lcmp, 1) := by decide +kernel
theorem dX11_sumOf_142 : decode cX11_sumOf 142 = .ok (.ifCond .le 7, 3) := by decide +kernel
theorem dX11_sumOf_145 : decode cX11_sumOf 145 = .ok (.iload_n 3, 1) := by decide +kernel
theorem dX11_sumOf_146 : decode cX11_sumOf 146 = .ok (.goto 10, 3) := by decide +kernel
theorem dX11_sumOf_149 : decode cX11_sumOf 149 = .ok (.aload_n 0, 1) := by decide +kernel
theorem dX11_sumOf_150 : decode cX11_sumOf 150 = .ok (.getfield 185, 3) := by decide +kernel
theorem dX11_sumOf_153 : decode cX11_sumOf 153 = .ok (.iconst 0, 1) := by decide +kernel
theorem dX11_sumOf_154 : decode cX11_sumOf 154 = .ok (.laload, 1) := by decide +kernel
theorem dX11_sumOf_155 : decode cX11_sumOf 155 = .ok (.l2i, 1) := by decide +kernel
theorem dX11_sumOf_156 : decode cX11_sumOf 156 = .ok (.ireturn, 1) := by decide +kernel
set_option maxRecDepth 100000 in
set_option maxHeartbeats 4000000 in
theorem X11_sumOf_J112_ok {g : Gm} {w : Wd} (C : Cx g w RX11 cX11_sumOf 7 (some .int)) {lv : Nat} (hlv : 4 < lv) {N : Nat} {r15 : Nat → Int → Int → Int → Int → Mem → Option (Int × Mem) } {l0 : Nat} {l2 : Int} {l3 : Int} {l4 : Int} {l5 : Int} {m : Mem} {out : (Int × Mem)} (hr15 : ∀ l0 l2 l3 l4 l5 m, r15 l0 l2 l3 l4 l5 m = some out → Jd g w 7 (rmL lv 0 0) (Qm g w (some (vI out.1)) out.2) 15 [some (vR l0), none, some (vI l2), some (vI l3), some (vI l4), some (vI l5), none] [] 312 m 0 0) (h : X11_sumOf_J112 N r15 l0 l2 l3 l4 l5 m = some out) : Jd g w 7 (rmL lv 0 0) (Qm g w (some (vI out.1)) out.2) 112 [some (vR l0), none, some (vI l2), some (vI l3), some (vI l4), some (vI l5), none] [] 312 m 0 0 := by
  unfold X11_sumOf_J112 at h
  refine j_iinc (ls' := [some (vR _), none, some (vI _), some (vI _), some (vI _), some (vI _), none]) C dX11_sumOf_112 rfl (by decide) rfl ?_
  refine j_goto C 15 dX11_sumOf_115 rfl ?_
  exact hr15 _ _ _ _ _ _ h
set_option maxRecDepth 100000 in
set_option maxHeartbeats 4000000 in
theorem X11_sumOf_J53_ok {g : Gm} {w : Wd} (C : Cx g w RX11 cX11_sumOf 7 (some .int)) {lv : Nat} (hlv : 4 < lv) {N : Nat} {r15 : Nat → Int → Int → Int → Int → Mem → Option (Int × Mem) } {l0 : Nat} {l2 : Int} {l3 : Int} {l4 : Int} {l5 : Int} {l6 : Int} {m : Mem} {out : (Int × Mem)} (hr15 : ∀ l0 l2 l3 l4 l5 m, r15 l0 l2 l3 l4 l5 m = some out → Jd g w 7 (rmL lv 0 0) (Qm g w (some (vI out.1)) out.2) 15 [some (vR l0), none, some (vI l2), some (vI l3), some (vI l4), some (vI l5), none] [] 312 m 0 0) (h : X11_sumOf_J53 N r15 l0 l2 l3 l4 l5 l6 m = some out) : Jd g w 7 (rmL lv 0 0) (Qm g w (some (vI out.1)) out.2) 53 [some (vR l0), none, some (vI l2), some (vI l3), some (vI l4), some (vI l5), some (vI l6)] [] 312 m 0 0 := by
  unfold X11_sumOf_J53 at h
  refine j_aload_n C dX11_sumOf_53 rfl ?_
  refine j_getR C dX11_sumOf_54 CF11 (by decide) fl_X11_185 rfl rfl h (fun t5 h => ?_)
  refine j_iload C dX11_sumOf_57 rfl ?_
  refine j_aload_n C dX11_sumOf_59 rfl ?_
  refine j_iload C dX11_sumOf_60 rfl ?_
  refine j_aload_n C dX11_sumOf_62 rfl ?_
  refine j_getR C dX11_sumOf_63 CF11 (by decide) fl_X11_120 rfl rfl h (fun t6 h => ?_)
  refine j_iload C dX11_sumOf_66 rfl ?_
  refine j_iald C dX11_sumOf_68 rfl h (fun t7 h => ?_)
  obtain ⟨p8, ep8, h⟩ := bind_some h
  have qp8 := X11_part_ct ep8
  refine j_cVL C dX11_sumOf_69 vl_X11_494 CF11 rfl qp8.1 qp8.2 (by omega) rfl rfl (Nat.le_of_ble_eq_true rfl) ?_
  refine j_last C dX11_sumOf_72 rfl h (fun m9 h => ?_)
  refine j_iinc (ls' := [some (vR _), none, some (vI _), some (vI _), some (vI _), some (vI _), some (vI _)]) C dX11_sumOf_73 rfl (by decide) rfl ?_
  refine j_goto C 112 dX11_sumOf_76 rfl ?_
  refine j_mask [true, false, true, true, true, true, false] (ls' := [some (vR _), none, some (vI _), some (vI _), some (vI _), some (vI _), none]) rfl ?_
  exact X11_sumOf_J112_ok C hlv hr15 h
set_option maxRecDepth 100000 in
set_option maxHeartbeats 4000000 in
theorem X11_sumOf_L15_bok {g : Gm} {w : Wd} (C : Cx g w RX11 cX11_sumOf 7 (some .int)) {lv : Nat} (hlv : 4 < lv) {N : Nat} {k118 : Nat → Int → Mem → Option (Int × Mem)} {r15 : Nat → Int → Int → Int → Int → Mem → Option (Int × Mem)} {l0 : Nat} {l2 : Int} {l3 : Int} {l4 : Int} {l5 : Int} {m : Mem} {out : (Int × Mem)} (hk118 : ∀ l0 l3 m, k118 l0 l3 m = some out → Jd g w 7 (rmL lv 0 0) (Qm g w (some (vI out.1)) out.2) 118 [some (vR l0), none, none, some (vI l3), none, none, none] [] 312 m 0 0) (hr15 : ∀ l0 l2 l3 l4 l5 m, r15 l0 l2 l3 l4 l5 m = some out → Jd g w 7 (rmL lv 0 0) (Qm g w (some (vI out.1)) out.2) 15 [some (vR l0), none, some (vI l2), some (vI l3), some (vI l4), some (vI l5), none] [] 312 m 0 0) (h : X11_sumOf_L15_b N k118 r15 l0 l2 l3 l4 l5 m = some out) : Jd g w 7 (rmL lv 0 0) (Qm g w (some (vI out.1)) out.2) 15 [some (vR l0), none, some (vI l2), some (vI l3), some (vI l4), some (vI l5), none] [] 312 m 0 0 := by
  unfold X11_sumOf_L15_b at h
  refine j_iload C dX11_sumOf_15 rfl ?_
  refine j_sipush C dX11_sumOf_17 rfl ?_
  refine j_aload_n C dX11_sumOf_20 rfl ?_
  refine j_getI C dX11_sumOf_21 CF11 (by decide) fl_X11_51 rfl rfl h (fun t2 h => ?_)
  refine j_imul C dX11_sumOf_24 ?_
  refine j_iload_n C dX11_sumOf_25 rfl ?_
  refine j_iadd C dX11_sumOf_26 ?_
  refine j_icmp_ge C 118 dX11_sumOf_27 rfl h (fun c19 h => ?_) (fun c19 h => ?_)
  · refine j_mask [true, false, false, true, false, false, false] (ls' := [some (vR _), none, none, some (vI _), none, none, none]) rfl ?_
    exact hk118 _ _ _ h
  · refine j_aload_n C dX11_sumOf_30 rfl ?_
    refine j_getR C dX11_sumOf_31 CF11 (by decide) fl_X11_117 rfl rfl h (fun t3 h => ?_)
    refine j_iload C dX11_sumOf_34 rfl ?_
    refine j_iald C dX11_sumOf_36 rfl h (fun t4 h => ?_)
    refine j_istore (ls' := [some (vR _), none, some (vI _), some (vI _), some (vI _), some (vI _), some (vI _)]) C dX11_sumOf_37 (by decide) rfl ?_
    refine j_iload C dX11_sumOf_39 rfl ?_
    refine j_bipush C dX11_sumOf_41 rfl ?_
    refine j_icmp_lt C 53 dX11_sumOf_43 rfl h (fun c18 h => ?_) (fun c18 h => ?_)
    · exact X11_sumOf_J53_ok C hlv hr15 h
    · refine j_iload C dX11_sumOf_46 rfl ?_
      refine j_bipush C dX11_sumOf_48 rfl ?_
      refine j_icmp_ne C 79 dX11_sumOf_50 rfl h (fun c17 h => ?_) (fun c17 h => ?_)
      · refine j_iinc (ls' := [some (vR _), none, some (vI _), some (vI _), some (vI _), some (vI _), some (vI _)]) C dX11_sumOf_79 rfl (by decide) rfl ?_
        refine j_aload_n C dX11_sumOf_82 rfl ?_
        refine j_getR C dX11_sumOf_83 CF11 (by decide) fl_X11_185 rfl rfl h (fun t10 h => ?_)
        refine j_iload C dX11_sumOf_86 rfl ?_
        refine j_iconst C dX11_sumOf_88 rfl ?_
        refine j_isub C dX11_sumOf_89 ?_
        refine j_iload C dX11_sumOf_90 rfl ?_
        refine j_aload_n C dX11_sumOf_92 rfl ?_
        refine j_getR C dX11_sumOf_93 CF11 (by decide) fl_X11_185 rfl rfl h (fun t11 h => ?_)
        refine j_iload C dX11_sumOf_96 rfl ?_
        refine j_iconst C dX11_sumOf_98 rfl ?_
        refine j_isub C dX11_sumOf_99 ?_
        refine j_lald C dX11_sumOf_100 rfl h (fun t12 h => ?_)
        refine j_aload_n C dX11_sumOf_101 rfl ?_
        refine j_getR C dX11_sumOf_102 CF11 (by decide) fl_X11_185 rfl rfl h (fun t13 h => ?_)
        refine j_iload C dX11_sumOf_105 rfl ?_
        refine j_lald C dX11_sumOf_107 rfl h (fun t14 h => ?_)
        obtain ⟨p15, ep15, h⟩ := bind_some h
        have qp15 := X11_two_ct ep15
        refine j_cSL C dX11_sumOf_108 sl_X11_498 qp15 (by omega) rfl rfl (Nat.le_of_ble_eq_true rfl) ?_
        refine j_last C dX11_sumOf_111 rfl h (fun m16 h => ?_)
        refine j_mask [true, false, true, true, true, true, false] (ls' := [some (vR _), none, some (vI _), some (vI _), some (vI _), some (vI _), none]) rfl ?_
        exact X11_sumOf_J112_ok C hlv hr15 h
      · exact X11_sumOf_J53_ok C hlv hr15 h
set_option maxRecDepth 100000 in
set_option maxHeartbeats 4000000 in
theorem X11_sumOf_L15_ok {g : Gm} {w : Wd} (C : Cx g w RX11 cX11_sumOf 7 (some .int)) {lv : Nat} (hlv : 4 < lv) {N : Nat} {k118 : Nat → Int → Mem → Option (Int × Mem)} {out : (Int × Mem)} (hk118 : ∀ l0 l3 m, k118 l0 l3 m = some out → Jd g w 7 (rmL lv 0 0) (Qm g w (some (vI out.1)) out.2) 118 [some (vR l0), none, none, some (vI l3), none, none, none] [] 312 m 0 0) (f : Nat) : ∀ {l0 : Nat} {l2 : Int} {l3 : Int} {l4 : Int} {l5 : Int} {m : Mem}, X11_sumOf_L15 N k118 f l0 l2 l3 l4 l5 m = some out → Jd g w 7 (rmL lv 0 0) (Qm g w (some (vI out.1)) out.2) 15 [some (vR l0), none, some (vI l2), some (vI l3), some (vI l4), some (vI l5), none] [] 312 m 0 0 := by
  induction f with
  | zero => intro l0 l2 l3 l4 l5 m h; exact none_ne (α := (Int × Mem)) h
  | succ f ih => intro l0 l2 l3 l4 l5 m h; exact X11_sumOf_L15_bok C hlv hk118 (fun l0 l2 l3 l4 l5 m h => ih h) h
set_option maxRecDepth 100000 in
set_option maxHeartbeats 4000000 in
theorem X11_sumOf_ct {N : Nat} {l0 : Nat} {l1 : Int} {l2 : Int} {l3 : Int} {m : Mem} {out : (Int × Mem)} (h : X11_sumOf N l0 l1 l2 l3 m = some out) : shK l0 = 11 + 10 ∧ CT yX11_sumOf cX11_sumOf 7 (some .int) 5 0 0 [vR l0, vI l1, vI l2, vI l3] 312 m (some (vI out.1)) 312 out.2 := by
  unfold X11_sumOf at h
  obtain ⟨hK, h⟩ := ite_some h
  have hlv : 4 < 5 := by decide
  refine ⟨hK, CT.of (by decide +kernel) rfl (Nat.le_of_ble_eq_true rfl) (ls := [some (vR l0), some (vI l1), some (vI l2), some (vI l3), none, none, none]) rfl fun g w C _ => ?_⟩
  refine j_iconst C dX11_sumOf_0 rfl ?_
  refine j_istore (ls' := [some (vR _), some (vI _), some (vI _), some (vI _), some (vI _), none, none]) C dX11_sumOf_1 (by decide) rfl ?_
  refine j_sipush C dX11_sumOf_3 rfl ?_
  refine j_aload_n C dX11_sumOf_6 rfl ?_
  refine j_getI C dX11_sumOf_7 CF11 (by decide) fl_X11_51 rfl rfl h (fun t1 h => ?_)
  refine j_imul C dX11_sumOf_10 ?_
  refine j_iload_n C dX11_sumOf_11 rfl ?_
  refine j_iadd C dX11_sumOf_12 ?_
  refine j_istore (ls' := [some (vR _), some (vI _), some (vI _), some (vI _), some (vI _), some (vI _), none]) C dX11_sumOf_13 (by decide) rfl ?_
  refine j_mask [true, false, true, true, true, true, false] (ls' := [some (vR _), none, some (vI _), some (vI _), some (vI _), some (vI _), none]) rfl ?_
  refine X11_sumOf_L15_ok C hlv (fun z20 z21 m22 h => ?_) N h
  refine j_aload_n C dX11_sumOf_118 rfl ?_
  refine j_getR C dX11_sumOf_119 CF11 (by decide) fl_X11_185 rfl rfl h (fun t23 h => ?_)
  refine j_iconst C dX11_sumOf_122 rfl ?_
  refine j_lald C dX11_sumOf_123 rfl h (fun t24 h => ?_)
  refine j_lconst (v := 0) C dX11_sumOf_124 rfl rfl ?_
  refine j_lcmp C dX11_sumOf_125 ?_
  refine j_if_ge C 133 dX11_sumOf_126 rfl h (fun c30 h => ?_) (fun c30 h => ?_)
  · refine j_aload_n C dX11_sumOf_133 rfl ?_
    refine j_getR C dX11_sumOf_134 CF11 (by decide) fl_X11_185 rfl rfl h (fun t25 h => ?_)
    refine j_iconst C dX11_sumOf_137 rfl ?_
    refine j_lald C dX11_sumOf_138 rfl h (fun t26 h => ?_)
    refine j_iload_n C dX11_sumOf_139 rfl ?_
    refine j_i2l C dX11_sumOf_140 ?_
    refine j_lcmp C dX11_sumOf_141 ?_
    refine j_if_le C 149 dX11_sumOf_142 rfl h (fun c29 h => ?_) (fun c29 h => ?_)
    · refine j_aload_n C dX11_sumOf_149 rfl ?_
      refine j_getR C dX11_sumOf_150 CF11 (by decide) fl_X11_185 rfl rfl h (fun t27 h => ?_)
      refine j_iconst C dX11_sumOf_153 rfl ?_
      refine j_lald C dX11_sumOf_154 rfl h (fun t28 h => ?_)
      refine j_l2i C dX11_sumOf_155 ?_
      have e := Option.some.inj h
      subst e
      exact j_ri C dX11_sumOf_156 rfl rfl rfl
    · refine j_iload_n C dX11_sumOf_145 rfl ?_
      refine j_goto C 156 dX11_sumOf_146 rfl ?_
      have e := Option.some.inj h
      subst e
      exact j_ri C dX11_sumOf_156 rfl rfl rfl
  · refine j_iconst C dX11_sumOf_129 rfl ?_
    refine j_goto C 156 dX11_sumOf_130 rfl ?_
    have e := Option.some.inj h
    subst e
    exact j_ri C dX11_sumOf_156 rfl rfl rfl
theorem dX11_dews_0 : decode cX11_dews 0 = .ok (.aload_n 0, 1) := by decide +kernel
theorem dX11_dews_1 : decode cX11_dews 1 = .ok (.iload_n 1, 1) := by decide +kernel
theorem dX11_dews_2 : decode cX11_dews 2 = .ok (.putfield 188, 3) := by decide +kernel
theorem dX11_dews_5 : decode cX11_dews 5 = .ok (.aload_n 0, 1) := by decide +kernel
theorem dX11_dews_6 : decode cX11_dews 6 = .ok (.iload_n 2, 1) := by decide +kernel
theorem dX11_dews_7 : decode cX11_dews 7 = .ok (.putfield 194, 3) := by decide +kernel
theorem dX11_dews_10 : decode cX11_dews 10 = .ok (.iconst 0, 1) := by decide +kernel
theorem dX11_dews_11 : decode cX11_dews 11 = .ok (.istore_n 3, 1) := by decide +kernel
theorem dX11_dews_12 : decode cX11_dews 12 = .ok (.iload_n 3, 1) := by decide +kernel
theorem dX11_dews_13 : decode cX11_dews 13 = .ok (.aload_n 0, 1) := by decide +kernel
theorem dX11_dews_14 : decode cX11_dews 14 = .ok (.getfield 81, 3) := by decide +kernel
theorem dX11_dews_17 : decode cX11_dews 17 = .ok (.aload_n 0, 1) := by decide +kernel
theorem dX11_dews_18 : decode cX11_dews 18 = .ok (.getfield 51, 3) := by decide +kernel
theorem dX11_dews_21 : decode cX11_dews 21 = .ok (.iaload, 1) := by decide +kernel
theorem dX11_dews_22 : decode cX11_dews 22 = .ok (.if_icmp .ge 169, 3) := by decide +kernel
theorem dX11_dews_25 : decode cX11_dews 25 = .ok (.bipush 10, 2) := by decide +kernel
theorem dX11_dews_27 : decode cX11_dews 27 = .ok (.iload_n 2, 1) := by decide +kernel
theorem dX11_dews_28 : decode cX11_dews 28 = .ok (.imul, 1) := by decide +kernel
theorem dX11_dews_29 : decode cX11_dews 29 = .ok (.iload_n 3, 1) := by decide +kernel
theorem dX11_dews_30 : decode cX11_dews 30 = .ok (.iadd, 1) := by decide +kernel
theorem dX11_dews_31 : decode cX11_dews 31 = .ok (.istore 4, 2) := by decide +kernel
theorem dX11_dews_33 : decode cX11_dews 33 = .ok (.aload_n 0, 1) := by decide +kernel
theorem dX11_dews_34 : decode cX11_dews 34 = .ok (.iload_n 3, 1) := by decide +kernel
theorem dX11_dews_35 : decode cX11_dews 35 = .ok (.putfield 191, 3) := by decide +kernel
theorem dX11_dews_38 : decode cX11_dews 38 = .ok (.aload_n 0, 1) := by decide +kernel
theorem dX11_dews_39 : decode cX11_dews 39 = .ok (.aload_n 0, 1) := by decide +kernel
theorem dX11_dews_40 : decode cX11_dews 40 = .ok (.getfield 212, 3) := by decide +kernel
theorem dX11_dews_43 : decode cX11_dews 43 = .ok (.iload 4, 2) := by decide +kernel
theorem dX11_dews_45 : decode cX11_dews 45 = .ok (.bipush 10, 2) := by decide +kernel
theorem dX11_dews_47 : decode cX11_dews 47 = .ok (.isub, 1) := by decide +kernel
theorem dX11_dews_48 : decode cX11_dews 48 = .ok (.iaload, 1) := by decide +kernel
theorem dX11_dews_49 : decode cX11_dews 49 = .ok (.putfield 197, 3) := by decide +kernel
theorem dX11_dews_52 : decode cX11_dews 52 = .ok (.aload_n 0, 1) := by decide +kernel
theorem dX11_dews_53 : decode cX11_dews 53 = .ok (.getfield 206, 3) := by decide +kernel
theorem dX11_dews_56 : decode cX11_dews 56 = .ok (.iload 4, 2) := by decide +kernel
theorem dX11_dews_58 : decode cX11_dews 58 = .ok (.aload_n 0, 1) := by decide +kernel
theorem dX11_dews_59 : decode cX11_dews 59 = .ok (.getfield 96, 3) := by decide +kernel
theorem dX11_dews_62 : decode cX11_dews 62 = .ok (.aload_n 0, 1) := by decide +kernel
theorem dX11_dews_63 : decode cX11_dews 63 = .ok (.getfield 51, 3) := by decide +kernel
theorem dX11_dews_66 : decode cX11_dews 66 = .ok (.iaload, 1) := by decide +kernel
theorem dX11_dews_67 : decode cX11_dews 67 = .ok (.iconst (-1), 1) := by decide +kernel
theorem dX11_dews_68 : decode cX11_dews 68 = .ok (.if_icmp .ne 7, 3) := by decide +kernel
theorem dX11_dews_71 : decode cX11_dews 71 = .ok (.iconst 0, 1) := by decide +kernel
theorem dX11_dews_72 : decode cX11_dews 72 = .ok (.goto 27, 3) := by decide +kernel
theorem dX11_dews_75 : decode cX11_dews 75 = .ok (.aload_n 0, 1) := by decide +kernel
theorem dX11_dews_76 : decode cX11_dews 76 = .ok (.aload_n 0, 1) := by decide +kernel
theorem dX11_dews_77 : decode cX11_dews 77 = .ok (.getfield 96, 3) := by decide +kernel
theorem dX11_dews_80 : decode cX11_dews 80 = .ok (.aload_n 0, 1) := by decide +kernel
theorem dX11_dews_81 : decode cX11_dews 81 = .ok (.getfield 51, 3) := by decide +kernel
theorem dX11_dews_84 : decode cX11_dews 84 = .ok (.iaload, 1) := by decide +kernel
theorem dX11_dews_85 : decode cX11_dews 85 = .ok (.aload_n 0, 1) := by decide +kernel
theorem dX11_dews_86 : decode cX11_dews 86 = .ok (.getfield 99, 3) := by decide +kernel
theorem dX11_dews_89 : decode cX11_dews 89 = .ok (.aload_n 0, 1) := by decide +kernel
theorem dX11_dews_90 : decode cX11_dews 90 = .ok (.getfield 51, 3) := by decide +kernel
theorem dX11_dews_93 : decode cX11_dews 93 = .ok (.iaload, 1) := by decide +kernel
theorem dX11_dews_94 : decode cX11_dews 94 = .ok (.bipush 99, 2) := by decide +kernel
theorem dX11_dews_96 : decode cX11_dews 96 = .ok (.invokevirtual 505, 3) := by decide +kernel
theorem dX11_dews_99 : decode cX11_dews 99 = .ok (.iastore, 1) := by decide +kernel
theorem dX11_dews_100 : decode cX11_dews 100 = .ok (.aload_n 0, 1) := by decide +kernel
theorem dX11_dews_101 : decode cX11_dews 101 = .ok (.dup, 1) := by decide +kernel
theorem dX11_dews_102 : decode cX11_dews 102 = .ok (.getfield 197, 3) := by decide +kernel
theorem dX11_dews_105 : decode cX11_dews 105 = .ok (.aload_n 0, 1) := by decide +kernel
theorem dX11_dews_106 : decode cX11_dews 106 = .ok (.getfield 206, 3) := by decide +kernel
theorem dX11_dews_109 : decode cX11_dews 109 = .ok (.iload 4, 2) := by decide +kernel
theorem dX11_dews_111 : decode cX11_dews 111 = .ok (.iaload, 1) := by decide +kernel
theorem dX11_dews_112 : decode cX11_dews 112 = .ok (.iadd, 1) := by decide +kernel
theorem dX11_dews_113 : decode cX11_dews 113 = .ok (.putfield 197, 3) := by decide +kernel
theorem dX11_dews_116 : decode cX11_dews 116 = .ok (.aload_n 0, 1) := by decide +kernel
theorem dX11_dews_117 : decode cX11_dews 117 = .ok (.getfield 209, 3) := by decide +kernel
theorem dX11_dews_120 : decode cX11_dews 120 = .ok (.iload 4, 2) := by decide +kernel
theorem dX11_dews_122 : decode cX11_dews 122 = .ok (.aload_n 0, 1) := by decide +kernel
theorem dX11_dews_123 : decode cX11_dews 123 = .ok (.getfield 102, 3) := by decide +kernel
theorem dX11_dews_126 : decode cX11_dews 126 = .ok (.aload_n 0, 1) := by decide +kernel
theorem dX11_dews_127 : decode cX11_dews 127 = .ok (.getfield 51, 3) := by decide +kernel
theorem dX11_dews_130 : decode cX11_dews 130 = .ok (.iaload, 1) := by decide +kernel
theorem dX11_dews_131 : decode cX11_dews 131 = .ok (.iconst (-1), 1) := by decide +kernel
theorem dX11_dews_132 : decode cX11_dews 132 = .ok (.if_icmp .ne 7, 3) := by decide +kernel
theorem dX11_dews_135 : decode cX11_dews 135 = .ok (.iconst 0, 1) := by decide +kernel
theorem dX11_dews_136 : decode cX11_dews 136 = .ok (.goto 29, 3) := by decide +kernel
theorem dX11_dews_139 : decode cX11_dews 139 = .ok (.aload_n 0, 1) := by decide +kernel
theorem dX11_dews_140 : decode cX11_dews 140 = .ok (.aload_n 0, 1) := by decide +kernel
theorem dX11_dews_141 : decode cX11_dews 141 = .ok (.getfield 102, 3) := by decide +kernel
theorem dX11_dews_144 : decode cX11_dews 144 = .ok (.aload_n 0, 1) := by decide +kernel
theorem dX11_dews_145 : decode cX11_dews 145 = .ok (.getfield 51, 3) := by decide +kernel
theorem dX11_dews_148 : decode cX11_dews 148 = .ok (.iaload, 1) := by decide +kernel
theorem dX11_dews_149 : decode cX11_dews 149 = .ok (.aload_n 0, 1) := by decide +kernel
theorem dX11_dews_150 : decode cX11_dews 150 = .ok (.getfield 105, 3) := by decide +kernel
theorem dX11_dews_153 : decode cX11_dews 153 = .ok (.aload_n 0, 1) := by decide +kernel
theorem dX11_dews_154 : decode cX11_dews 154 = .ok (.getfield 51, 3) := by decide +kernel
theorem dX11_dews_157 : decode cX11_dews 157 = .ok (.iaload, 1) := by decide +kernel
theorem dX11_dews_158 : decode cX11_dews 158 = .ok (.aload_n 0, 1) := by decide +kernel
theorem dX11_dews_159 : decode cX11_dews 159 = .ok (.getfield 197, 3) := by decide +kernel
theorem dX11_dews_162 : decode cX11_dews 162 = .ok (.invokevirtual 505, 3) := by decide +kernel
theorem dX11_dews_165 : decode cX11_dews 165 = .ok (.iastore, 1) := by decide +kernel
theorem dX11_dews_166 : decode cX11_dews 166 = .ok (.aload_n 0, 1) := by decide +kernel
theorem dX11_dews_167 : decode cX11_dews 167 = .ok (.getfield 212, 3) := by decide +kernel
theorem dX11_dews_170 : decode cX11_dews 170 = .ok (.iload 4, 2) := by decide +kernel
theorem dX11_dews_172 : decode cX11_dews 172 = .ok (.aload_n 0, 1) := by decide +kernel
theorem dX11_dews_173 : decode cX11_dews 173 = .ok (.getfield 197, 3) := by decide +kernel
theorem dX11_dews_176 : decode cX11_dews 176 = .ok (.aload_n 0, 1) := by decide +kernel
theorem dX11_dews_177 : decode cX11_dews 177 = .ok (.getfield 209, 3) := by decide +kernel
theorem dX11_dews_180 : decode cX11_dews 180 = .ok (.iload 4, 2) := by decide +kernel
theorem dX11_dews_182 : decode cX11_dews 182 = .ok (.iaload, 1) := by decide +kernel
theorem dX11_dews_183 : decode cX11_dews 183 = .ok (.isub, 1) := by decide +kernel
theorem dX11_dews_184 : decode cX11_dews 184 = .ok (.iastore, 1) := by decide +kernel
theorem dX11_dews_185 : decode cX11_dews 185 = .ok (.iinc 3 1, 3) := by decide +kernel
theorem dX11_dews_188 : decode cX11_dews 188 = .ok (.goto (-176), 3) := by decide +kernel
theorem dX11_dews_191 : decode cX11_dews 191 = .ok (.return_, 1) := by decide +kernel
set_option maxRecDepth 100000 in
set_option maxHeartbeats 4000000 in
theorem X11_dews_J165_ok {g : Gm} {w : Wd} (C : Cx g w RX11 cX11_dews 5 none) {lv : Nat} (hlv : 5 < lv) {N : Nat} {r12 : Nat → Int → Int → Mem → Option Mem } {l0 : Nat} {l2 : Int} {l3 : Int} {l4 : Int} {s0 : Nat} {s1 : Int} {s2 : Int} {m : Mem} {out : Mem} (hr12 : ∀ l0 l2 l3 m, r12 l0 l2 l3 m = some out → Jd g w 5 (rmL lv 0 0) (Qm g w none out) 12 [some (vR l0), none, some (vI l2), some (vI l3), none] [] 312 m 0 0) (h : X11_dews_J165 N r12 l0 l2 l3 l4 s0 s1 s2 m = some out) : Jd g w 5 (rmL lv 0 0) (Qm g w none out) 165 [some (vR l0), none, some (vI l2), some (vI l3), some (vI l4)] [vI s2, vI s1, vR s0] 312 m 0 0 := by
  unfold X11_dews_J165 at h
  refine j_iast C dX11_dews_165 rfl h (fun m38 h => ?_)
  refine j_aload_n C dX11_dews_166 rfl ?_
  refine j_getR C dX11_dews_167 CF11 (by decide) fl_X11_212 rfl rfl h (fun t39 h => ?_)
  refine j_iload C dX11_dews_170 rfl ?_
  refine j_aload_n C dX11_dews_172 rfl ?_
  refine j_getI C dX11_dews_173 CF11 (by decide) fl_X11_197 rfl rfl h (fun t40 h => ?_)
  refine j_aload_n C dX11_dews_176 rfl ?_
  refine j_getR C dX11_dews_177 CF11 (by decide) fl_X11_209 rfl rfl h (fun t41 h => ?_)
  refine j_iload C dX11_dews_180 rfl ?_
  refine j_iald C dX11_dews_182 rfl h (fun t42 h => ?_)
  refine j_isub C dX11_dews_183 ?_
  refine j_iast C dX11_dews_184 rfl h (fun m43 h => ?_)
  refine j_iinc (ls' := [some (vR _), none, some (vI _), some (vI _), some (vI _)]) C dX11_dews_185 rfl (by decide) rfl ?_
  refine j_goto C 12 dX11_dews_188 rfl ?_
  refine j_mask [true, false, true, true, false] (ls' := [some (vR _), none, some (vI _), some (vI _), none]) rfl ?_
  exact hr12 _ _ _ _ h
set_option maxRecDepth 100000 in
set_option maxHeartbeats 4000000 in
theorem X11_dews_J99_ok {g : Gm} {w : Wd} (C : Cx g w RX11 cX11_dews 5 none) {lv : Nat} (hlv : 5 < lv) {N : Nat} {r12 : Nat → Int → Int → Mem → Option Mem } {l0 : Nat} {l2 : Int} {l3 : Int} {l4 : Int} {s0 : Nat} {s1 : Int} {s2 : Int} {m : Mem} {out : Mem} (hr12 : ∀ l0 l2 l3 m, r12 l0 l2 l3 m = some out → Jd g w 5 (rmL lv 0 0) (Qm g w none out) 12 [some (vR l0), none, some (vI l2), some (vI l3), none] [] 312 m 0 0) (h : X11_dews_J99 N r12 l0 l2 l3 l4 s0 s1 s2 m = some out) : Jd g w 5 (rmL lv 0 0) (Qm g w none out) 99 [some (vR l0), none, some (vI l2), some (vI l3), some (vI l4)] [vI s2, vI s1, vR s0] 312 m 0 0 := by
  unfold X11_dews_J99 at h
  refine j_iast C dX11_dews_99 rfl h (fun m21 h => ?_)
  refine j_aload_n C dX11_dews_100 rfl ?_
  refine j_dup C dX11_dews_101 rfl ?_
  refine j_getI C dX11_dews_102 CF11 (by decide) fl_X11_197 rfl rfl h (fun t22 h => ?_)
  refine j_aload_n C dX11_dews_105 rfl ?_
  refine j_getR C dX11_dews_106 CF11 (by decide) fl_X11_206 rfl rfl h (fun t23 h => ?_)
  refine j_iload C dX11_dews_109 rfl ?_
  refine j_iald C dX11_dews_111 rfl h (fun t24 h => ?_)
  refine j_iadd C dX11_dews_112 ?_
  refine j_putI C dX11_dews_113 CF11 (by decide) fl_X11_197 rfl rfl rfl rfl h (fun m25 h => ?_)
  refine j_aload_n C dX11_dews_116 rfl ?_
  refine j_getR C dX11_dews_117 CF11 (by decide) fl_X11_209 rfl rfl h (fun t26 h => ?_)
  refine j_iload C dX11_dews_120 rfl ?_
  refine j_aload_n C dX11_dews_122 rfl ?_
  refine j_getR C dX11_dews_123 CF11 (by decide) fl_X11_102 rfl rfl h (fun t27 h => ?_)
  refine j_aload_n C dX11_dews_126 rfl ?_
  refine j_getI C dX11_dews_127 CF11 (by decide) fl_X11_51 rfl rfl h (fun t28 h => ?_)
  refine j_iald C dX11_dews_130 rfl h (fun t29 h => ?_)
  refine j_iconst C dX11_dews_131 rfl ?_
  refine j_icmp_ne C 139 dX11_dews_132 rfl h (fun c44 h => ?_) (fun c44 h => ?_)
  · refine j_aload_n C dX11_dews_139 rfl ?_
    refine j_aload_n C dX11_dews_140 rfl ?_
    refine j_getR C dX11_dews_141 CF11 (by decide) fl_X11_102 rfl rfl h (fun t30 h => ?_)
    refine j_aload_n C dX11_dews_144 rfl ?_
    refine j_getI C dX11_dews_145 CF11 (by decide) fl_X11_51 rfl rfl h (fun t31 h => ?_)
    refine j_iald C dX11_dews_148 rfl h (fun t32 h => ?_)
    refine j_aload_n C dX11_dews_149 rfl ?_
    refine j_getR C dX11_dews_150 CF11 (by decide) fl_X11_105 rfl rfl h (fun t33 h => ?_)
    refine j_aload_n C dX11_dews_153 rfl ?_
    refine j_getI C dX11_dews_154 CF11 (by decide) fl_X11_51 rfl rfl h (fun t34 h => ?_)
    refine j_iald C dX11_dews_157 rfl h (fun t35 h => ?_)
    refine j_aload_n C dX11_dews_158 rfl ?_
    refine j_getI C dX11_dews_159 CF11 (by decide) fl_X11_197 rfl rfl h (fun t36 h => ?_)
    obtain ⟨p37, ep37, h⟩ := bind_some h
    have qp37 := X11_sumOf_ct ep37
    refine j_cVI C dX11_dews_162 vl_X11_505 CF11 rfl qp37.1 qp37.2 (by omega) rfl rfl (Nat.le_of_ble_eq_true rfl) ?_
    exact X11_dews_J165_ok C hlv hr12 h
  · refine j_iconst C dX11_dews_135 rfl ?_
    refine j_goto C 165 dX11_dews_136 rfl ?_
    exact X11_dews_J165_ok C hlv hr12 h
set_option maxRecDepth 100000 in
set_option maxHeartbeats 4000000 in
theorem X11_dews_L12_bok {g : Gm} {w : Wd} (C : Cx g w RX11 cX11_dews 5 none) {lv : Nat} (hlv : 5 < lv) {N : Nat} {r12 : Nat → Int → Int → Mem → Option Mem} {l0 : Nat} {l2 : Int} {l3 : Int} {m : Mem} {out : Mem} (hr12 : ∀ l0 l2 l3 m, r12 l0 l2 l3 m = some out → Jd g w 5 (rmL lv 0 0) (Qm g w none out) 12 [some (vR l0), none, some (vI l2), some (vI l3), none] [] 312 m 0 0) (h : X11_dews_L12_b N r12 l0 l2 l3 m = some out) : Jd g w 5 (rmL lv 0 0) (Qm g w none out) 12 [some (vR l0), none, some (vI l2), some (vI l3), none] [] 312 m 0 0 := by
  unfold X11_dews_L12_b at h
  refine j_iload_n C dX11_dews_12 rfl ?_
  refine j_aload_n C dX11_dews_13 rfl ?_
  refine j_getR C dX11_dews_14 CF11 (by decide) fl_X11_81 rfl rfl h (fun t3 h => ?_)
  refine j_aload_n C dX11_dews_17 rfl ?_
  refine j_getI C dX11_dews_18 CF11 (by decide) fl_X11_51 rfl rfl h (fun t4 h => ?_)
  refine j_iald C dX11_dews_21 rfl h (fun t5 h => ?_)
  refine j_icmp_ge C 191 dX11_dews_22 rfl h (fun c46 h => ?_) (fun c46 h => ?_)
  · have e := Option.some.inj h
    subst e
    exact j_rv C dX11_dews_191 rfl rfl
  · refine j_bipush C dX11_dews_25 rfl ?_
    refine j_iload_n C dX11_dews_27 rfl ?_
    refine j_imul C dX11_dews_28 ?_
    refine j_iload_n C dX11_dews_29 rfl ?_
    refine j_iadd C dX11_dews_30 ?_
    refine j_istore (ls' := [some (vR _), none, some (vI _), some (vI _), some (vI _)]) C dX11_dews_31 (by decide) rfl ?_
    refine j_aload_n C dX11_dews_33 rfl ?_
    refine j_iload_n C dX11_dews_34 rfl ?_
    refine j_putI C dX11_dews_35 CF11 (by decide) fl_X11_191 rfl rfl rfl rfl h (fun m6 h => ?_)
    refine j_aload_n C dX11_dews_38 rfl ?_
    refine j_aload_n C dX11_dews_39 rfl ?_
    refine j_getR C dX11_dews_40 CF11 (by decide) fl_X11_212 rfl rfl h (fun t7 h => ?_)
    refine j_iload C dX11_dews_43 rfl ?_
    refine j_bipush C dX11_dews_45 rfl ?_
    refine j_isub C dX11_dews_47 ?_
    refine j_iald C dX11_dews_48 rfl h (fun t8 h => ?_)
    refine j_putI C dX11_dews_49 CF11 (by decide) fl_X11_197 rfl rfl rfl rfl h (fun m9 h => ?_)
    refine j_aload_n C dX11_dews_52 rfl ?_
    refine j_getR C dX11_dews_53 CF11 (by decide) fl_X11_206 rfl rfl h (fun t10 h => ?_)
    refine j_iload C dX11_dews_56 rfl ?_
    refine j_aload_n C dX11_dews_58 rfl ?_
    refine j_getR C dX11_dews_59 CF11 (by decide) fl_X11_96 rfl rfl h (fun t11 h => ?_)
    refine j_aload_n C dX11_dews_62 rfl ?_
    refine j_getI C dX11_dews_63 CF11 (by decide) fl_X11_51 rfl rfl h (fun t12 h => ?_)
    refine j_iald C dX11_dews_66 rfl h (fun t13 h => ?_)
    refine j_iconst C dX11_dews_67 rfl ?_
    refine j_icmp_ne C 75 dX11_dews_68 rfl h (fun c45 h => ?_) (fun c45 h => ?_)
    · refine j_aload_n C dX11_dews_75 rfl ?_
      refine j_aload_n C dX11_dews_76 rfl ?_
      refine j_getR C dX11_dews_77 CF11 (by decide) fl_X11_96 rfl rfl h (fun t14 h => ?_)
      refine j_aload_n C dX11_dews_80 rfl ?_
      refine j_getI C dX11_dews_81 CF11 (by decide) fl_X11_51 rfl rfl h (fun t15 h => ?_)
      refine j_iald C dX11_dews_84 rfl h (fun t16 h => ?_)
      refine j_aload_n C dX11_dews_85 rfl ?_
      refine j_getR C dX11_dews_86 CF11 (by decide) fl_X11_99 rfl rfl h (fun t17 h => ?_)
      refine j_aload_n C dX11_dews_89 rfl ?_
      refine j_getI C dX11_dews_90 CF11 (by decide) fl_X11_51 rfl rfl h (fun t18 h => ?_)
      refine j_iald C dX11_dews_93 rfl h (fun t19 h => ?_)
      refine j_bipush C dX11_dews_94 rfl ?_
      obtain ⟨p20, ep20, h⟩ := bind_some h
      have qp20 := X11_sumOf_ct ep20
      refine j_cVI C dX11_dews_96 vl_X11_505 CF11 rfl qp20.1 qp20.2 (by omega) rfl rfl (Nat.le_of_ble_eq_true rfl) ?_
      exact X11_dews_J99_ok C hlv hr12 h
    · refine j_iconst C dX11_dews_71 rfl ?_
      refine j_goto C 99 dX11_dews_72 rfl ?_
      exact X11_dews_J99_ok C hlv hr12 h
set_option maxRecDepth 100000 in
set_option maxHeartbeats 4000000 in
theorem X11_dews_L12_ok {g : Gm} {w : Wd} (C : Cx g w RX11 cX11_dews 5 none) {lv : Nat} (hlv : 5 < lv) {N : Nat} {out : Mem} (f : Nat) : ∀ {l0 : Nat} {l2 : Int} {l3 : Int} {m : Mem}, X11_dews_L12 N f l0 l2 l3 m = some out → Jd g w 5 (rmL lv 0 0) (Qm g w none out) 12 [some (vR l0), none, some (vI l2), some (vI l3), none] [] 312 m 0 0 := by
  induction f with
  | zero => intro l0 l2 l3 m h; exact none_ne (α := Mem) h
  | succ f ih => intro l0 l2 l3 m h; exact X11_dews_L12_bok C hlv (fun l0 l2 l3 m h => ih h) h
set_option maxRecDepth 100000 in
set_option maxHeartbeats 4000000 in
theorem X11_dews_ct {N : Nat} {l0 : Nat} {l1 : Int} {l2 : Int} {m : Mem} {out : Mem} (h : X11_dews N l0 l1 l2 m = some out) : shK l0 = 11 + 10 ∧ CT yX11_dews cX11_dews 5 none 6 0 0 [vR l0, vI l1, vI l2] 312 m none 312 out := by
  unfold X11_dews at h
  obtain ⟨hK, h⟩ := ite_some h
  have hlv : 5 < 6 := by decide
  refine ⟨hK, CT.of (by decide +kernel) rfl (Nat.le_of_ble_eq_true rfl) (ls := [some (vR l0), some (vI l1), some (vI l2), none, none]) rfl fun g w C _ => ?_⟩
  refine j_aload_n C dX11_dews_0 rfl ?_
  refine j_iload_n C dX11_dews_1 rfl ?_
  refine j_putI C dX11_dews_2 CF11 (by decide) fl_X11_188 rfl rfl rfl rfl h (fun m1 h => ?_)
  refine j_aload_n C dX11_dews_5 rfl ?_
  refine j_iload_n C dX11_dews_6 rfl ?_
  refine j_putI C dX11_dews_7 CF11 (by decide) fl_X11_194 rfl rfl rfl rfl h (fun m2 h => ?_)
  refine j_iconst C dX11_dews_10 rfl ?_
  refine j_istore_n (ls' := [some (vR _), some (vI _), some (vI _), some (vI _), none]) C dX11_dews_11 (by decide) rfl ?_
  refine j_mask [true, false, true, true, false] (ls' := [some (vR _), none, some (vI _), some (vI _), none]) rfl ?_
  exact X11_dews_L12_ok C hlv N h
theorem dX11_goesNight_0 : decode cX11_goesNight 0 = .ok (.iconst 0, 1) := by decide +kernel
theorem dX11_goesNight_1 : decode cX11_goesNight 1 = .ok (.istore_n 2, 1) := by decide +kernel
theorem dX11_goesNight_2 : decode cX11_goesNight 2 = .ok (.iload_n 2, 1) := by decide +kernel
theorem dX11_goesNight_3 : decode cX11_goesNight 3 = .ok (.bipush 42, 2) := by decide +kernel
theorem dX11_goesNight_5 : decode cX11_goesNight 5 = .ok (.if_icmp .ge 16, 3) := by decide +kernel
theorem dX11_goesNight_8 : decode cX11_goesNight 8 = .ok (.aload_n 0, 1) := by decide +kernel
theorem dX11_goesNight_9 : decode cX11_goesNight 9 = .ok (.getfield 203, 3) := by decide +kernel
theorem dX11_goesNight_12 : decode cX11_goesNight 12 = .ok (.iload_n 2, 1) := by decide +kernel
theorem dX11_goesNight_13 : decode cX11_goesNight 13 = .ok (.iconst 0, 1) := by decide +kernel
theorem dX11_goesNight_14 : decode cX11_goesNight 14 = .ok (.iastore, 1) := by decide +kernel
theorem dX11_goesNight_15 : decode cX11_goesNight 15 = .ok (.iinc 2 1, 3) := by decide +kernel
theorem dX11_goesNight_18 : decode cX11_goesNight 18 = .ok (.goto (-16), 3) := by decide +kernel
theorem dX11_goesNight_21 : decode cX11_goesNight 21 = .ok (.iconst 0, 1) := by decide +kernel
theorem dX11_goesNight_22 : decode cX11_goesNight 22 = .ok (.istore_n 2, 1) := by decide +kernel
theorem dX11_goesNight_23 : decode cX11_goesNight 23 = .ok (.iload_n 2, 1) := by decide +kernel
theorem dX11_goesNight_24 : decode cX11_goesNight 24 = .ok (.bipush 10, 2) := by decide +kernel
theorem dX11_goesNight_26 : decode cX11_goesNight 26 = .ok (.if_icmp .ge 16, 3) := by decide +kernel
theorem dX11_goesNight_29 : decode cX11_goesNight 29 = .ok (.aload_n 0, 1) := by decide +kernel
theorem dX11_goesNight_30 : decode cX11_goesNight 30 = .ok (.getfield 212, 3) := by decide +kernel
theorem dX11_goesNight_33 : decode cX11_goesNight 33 = .ok (.iload_n 2, 1) := by decide +kernel
theorem dX11_goesNight_34 : decode cX11_goesNight 34 = .ok (.iconst 0, 1) := by decide +kernel
theorem dX11_goesNight_35 : decode cX11_goesNight 35 = .ok (.iastore, 1) := by decide +kernel
theorem dX11_goesNight_36 : decode cX11_goesNight 36 = .ok (.iinc 2 1, 3) := by decide +kernel
theorem dX11_goesNight_39 : decode cX11_goesNight 39 = .ok (.goto (-16), 3) := by decide +kernel
theorem dX11_goesNight_42 : decode cX11_goesNight 42 = .ok (.iconst 1, 1) := by decide +kernel
theorem dX11_goesNight_43 : decode cX11_goesNight 43 = .ok (.istore_n 2, 1) := by decide +kernel
theorem dX11_goesNight_44 : decode cX11_goesNight 44 = .ok (.iload_n 2, 1) := by decide +kernel
theorem dX11_goesNight_45 : decode cX11_goesNight 45 = .ok (.bipush 12, 2) := by decide +kernel
theorem dX11_goesNight_47 : decode cX11_goesNight 47 = .ok (.if_icmp .gt 21, 3) := by decide +kernel
theorem dX11_goesNight_50 : decode cX11_goesNight 50 = .ok (.aload_n 0, 1) := by decide +kernel
theorem dX11_goesNight_51 : decode cX11_goesNight 51 = .ok (.iload_n 1, 1) := by decide +kernel
theorem dX11_goesNight_52 : decode cX11_goesNight 52 = .ok (.iload_n 2, 1) := by decide +kernel
theorem dX11_goesNight_53 : decode cX11_goesNight 53 = .ok (.invokevirtual 509, 3) := by decide +kernel
theorem dX11_goesNight_56 : decode cX11_goesNight 56 = .ok (.aload_n 0, 1) := by decide +kernel
theorem dX11_goesNight_57 : decode cX11_goesNight 57 = .ok (.iload_n 1, 1) := by decide +kernel
theorem dX11_goesNight_58 : decode cX11_goesNight 58 = .ok (.iload_n 2, 1) := by decide +kernel
theorem dX11_goesNight_59 : decode cX11_goesNight 59 = .ok (.invokevirtual 512, 3) := by decide +kernel
theorem dX11_goesNight_62 : decode cX11_goesNight 62 = .ok (.iinc 2 1, 3) := by decide +kernel
theorem dX11_goesNight_65 : decode cX11_goesNight 65 = .ok (.goto (-21), 3) := by decide +kernel
theorem dX11_goesNight_68 : decode cX11_goesNight 68 = .ok (.return_, 1) := by decide +kernel
set_option maxRecDepth 100000 in
set_option maxHeartbeats 4000000 in
theorem X11_goesNight_L2_bok {g : Gm} {w : Wd} (C : Cx g w RX11 cX11_goesNight 3 none) {lv : Nat} (hlv : 6 < lv) {N : Nat} {k21 : Nat → Int → Mem → Option Mem} {r2 : Nat → Int → Int → Mem → Option Mem} {l0 : Nat} {l1 : Int} {l2 : Int} {m : Mem} {out : Mem} (hk21 : ∀ l0 l1 m, k21 l0 l1 m = some out → Jd g w 3 (rmL lv 0 0) (Qm g w none out) 21 [some (vR l0), some (vI l1), none] [] 312 m 0 0) (hr2 : ∀ l0 l1 l2 m, r2 l0 l1 l2 m = some out → Jd g w 3 (rmL lv 0 0) (Qm g w none out) 2 [some (vR l0), some (vI l1), some (vI l2)] [] 312 m 0 0) (h : X11_goesNight_L2_b N k21 r2 l0 l1 l2 m = some out) : Jd g w 3 (rmL lv 0 0) (Qm g w none out) 2 [some (vR l0), some (vI l1), some (vI l2)] [] 312 m 0 0 := by
  unfold X11_goesNight_L2_b at h
  refine j_iload_n C dX11_goesNight_2 rfl ?_
  refine j_bipush C dX11_goesNight_3 rfl ?_
  refine j_icmp_ge C 21 dX11_goesNight_5 rfl h (fun c3 h => ?_) (fun c3 h => ?_)
  · refine j_mask [true, true, false] (ls' := [some (vR _), some (vI _), none]) rfl ?_
    exact hk21 _ _ _ h
  · refine j_aload_n C dX11_goesNight_8 rfl ?_
    refine j_getR C dX11_goesNight_9 CF11 (by decide) fl_X11_203 rfl rfl h (fun t1 h => ?_)
    refine j_iload_n C dX11_goesNight_12 rfl ?_
    refine j_iconst C dX11_goesNight_13 rfl ?_
    refine j_iast C dX11_goesNight_14 rfl h (fun m2 h => ?_)
    refine j_iinc (ls' := [some (vR _), some (vI _), some (vI _)]) C dX11_goesNight_15 rfl (by decide) rfl ?_
    refine j_goto C 2 dX11_goesNight_18 rfl ?_
    exact hr2 _ _ _ _ h
set_option maxRecDepth 100000 in
set_option maxHeartbeats 4000000 in
theorem X11_goesNight_L2_ok {g : Gm} {w : Wd} (C : Cx g w RX11 cX11_goesNight 3 none) {lv : Nat} (hlv : 6 < lv) {N : Nat} {k21 : Nat → Int → Mem → Option Mem} {out : Mem} (hk21 : ∀ l0 l1 m, k21 l0 l1 m = some out → Jd g w 3 (rmL lv 0 0) (Qm g w none out) 21 [some (vR l0), some (vI l1), none] [] 312 m 0 0) (f : Nat) : ∀ {l0 : Nat} {l1 : Int} {l2 : Int} {m : Mem}, X11_goesNight_L2 N k21 f l0 l1 l2 m = some out → Jd g w 3 (rmL lv 0 0) (Qm g w none out) 2 [some (vR l0), some (vI l1), some (vI l2)] [] 312 m 0 0 := by
  induction f with
  | zero => intro l0 l1 l2 m h; exact none_ne (α := Mem) h
  | succ f ih => intro l0 l1 l2 m h; exact X11_goesNight_L2_bok C hlv hk21 (fun l0 l1 l2 m h => ih h) h
set_option maxRecDepth 100000 in
set_option maxHeartbeats 4000000 in
theorem X11_goesNight_L23_bok {g : Gm} {w : Wd} (C : Cx g w RX11 cX11_goesNight 3 none) {lv : Nat} (hlv : 6 < lv) {N : Nat} {k42 : Nat → Int → Mem → Option Mem} {r23 : Nat → Int → Int → Mem → Option Mem} {l0 : Nat} {l1 : Int} {l2 : Int} {m : Mem} {out : Mem} (hk42 : ∀ l0 l1 m, k42 l0 l1 m = some out → Jd g w 3 (rmL lv 0 0) (Qm g w none out) 42 [some (vR l0), some (vI l1), none] [] 312 m 0 0) (hr23 : ∀ l0 l1 l2 m, r23 l0 l1 l2 m = some out → Jd g w 3 (rmL lv 0 0) (Qm g w none out) 23 [some (vR l0), some (vI l1), some (vI l2)] [] 312 m 0 0) (h : X11_goesNight_L23_b N k42 r23 l0 l1 l2 m = some out) : Jd g w 3 (rmL lv 0 0) (Qm g w none out) 23 [some (vR l0), some (vI l1), some (vI l2)] [] 312 m 0 0 := by
  unfold X11_goesNight_L23_b at h
  refine j_iload_n C dX11_goesNight_23 rfl ?_
  refine j_bipush C dX11_goesNight_24 rfl ?_
  refine j_icmp_ge C 42 dX11_goesNight_26 rfl h (fun c9 h => ?_) (fun c9 h => ?_)
  · refine j_mask [true, true, false] (ls' := [some (vR _), some (vI _), none]) rfl ?_
    exact hk42 _ _ _ h
  · refine j_aload_n C dX11_goesNight_29 rfl ?_
    refine j_getR C dX11_goesNight_30 CF11 (by decide) fl_X11_212 rfl rfl h (fun t7 h => ?_)
    refine j_iload_n C dX11_goesNight_33 rfl ?_
    refine j_iconst C dX11_goesNight_34 rfl ?_
    refine j_iast C dX11_goesNight_35 rfl h (fun m8 h => ?_)
    refine j_iinc (ls' := [some (vR _), some (vI _), some (vI _)]) C dX11_goesNight_36 rfl (by decide) rfl ?_
    refine j_goto C 23 dX11_goesNight_39 rfl ?_
    exact hr23 _ _ _ _ h
set_option maxRecDepth 100000 in
set_option maxHeartbeats 4000000 in
theorem X11_goesNight_L23_ok {g : Gm} {w : Wd} (C : Cx g w RX11 cX11_goesNight 3 none) {lv : Nat} (hlv : 6 < lv) {N : Nat} {k42 : Nat → Int → Mem → Option Mem} {out : Mem} (hk42 : ∀ l0 l1 m, k42 l0 l1 m = some out → Jd g w 3 (rmL lv 0 0) (Qm g w none out) 42 [some (vR l0), some (vI l1), none] [] 312 m 0 0) (f : Nat) : ∀ {l0 : Nat} {l1 : Int} {l2 : Int} {m : Mem}, X11_goesNight_L23 N k42 f l0 l1 l2 m = some out → Jd g w 3 (rmL lv 0 0) (Qm g w none out) 23 [some (vR l0), some (vI l1), some (vI l2)] [] 312 m 0 0 := by
  induction f with
  | zero => intro l0 l1 l2 m h; exact none_ne (α := Mem) h
  | succ f ih => intro l0 l1 l2 m h; exact X11_goesNight_L23_bok C hlv hk42 (fun l0 l1 l2 m h => ih h) h
set_option maxRecDepth 100000 in
set_option maxHeartbeats 4000000 in
theorem X11_goesNight_L44_bok {g : Gm} {w : Wd} (C : Cx g w RX11 cX11_goesNight 3 none) {lv : Nat} (hlv : 6 < lv) {N : Nat} {r44 : Nat → Int → Int → Mem → Option Mem} {l0 : Nat} {l1 : Int} {l2 : Int} {m : Mem} {out : Mem} (hr44 : ∀ l0 l1 l2 m, r44 l0 l1 l2 m = some out → Jd g w 3 (rmL lv 0 0) (Qm g w none out) 44 [some (vR l0), some (vI l1), some (vI l2)] [] 312 m 0 0) (h : X11_goesNight_L44_b N r44 l0 l1 l2 m = some out) : Jd g w 3 (rmL lv 0 0) (Qm g w none out) 44 [some (vR l0), some (vI l1), some (vI l2)] [] 312 m 0 0 := by
  unfold X11_goesNight_L44_b at h
  refine j_iload_n C dX11_goesNight_44 rfl ?_
  refine j_bipush C dX11_goesNight_45 rfl ?_
  refine j_icmp_gt C 68 dX11_goesNight_47 rfl h (fun c15 h => ?_) (fun c15 h => ?_)
  · have e := Option.some.inj h
    subst e
    exact j_rv C dX11_goesNight_68 rfl rfl
  · refine j_aload_n C dX11_goesNight_50 rfl ?_
    refine j_iload_n C dX11_goesNight_51 rfl ?_
    refine j_iload_n C dX11_goesNight_52 rfl ?_
    obtain ⟨p13, ep13, h⟩ := bind_some h
    have qp13 := X11_colds_ct ep13
    refine j_cVV C dX11_goesNight_53 vl_X11_509 CF11 rfl qp13.1 qp13.2 (by omega) rfl rfl (Nat.le_of_ble_eq_true rfl) ?_
    refine j_aload_n C dX11_goesNight_56 rfl ?_
    refine j_iload_n C dX11_goesNight_57 rfl ?_
    refine j_iload_n C dX11_goesNight_58 rfl ?_
    obtain ⟨p14, ep14, h⟩ := bind_some h
    have qp14 := X11_dews_ct ep14
    refine j_cVV C dX11_goesNight_59 vl_X11_512 CF11 rfl qp14.1 qp14.2 (by omega) rfl rfl (Nat.le_of_ble_eq_true rfl) ?_
    refine j_iinc (ls' := [some (vR _), some (vI _), some (vI _)]) C dX11_goesNight_62 rfl (by decide) rfl ?_
    refine j_goto C 44 dX11_goesNight_65 rfl ?_
    exact hr44 _ _ _ _ h
set_option maxRecDepth 100000 in
set_option maxHeartbeats 4000000 in
theorem X11_goesNight_L44_ok {g : Gm} {w : Wd} (C : Cx g w RX11 cX11_goesNight 3 none) {lv : Nat} (hlv : 6 < lv) {N : Nat} {out : Mem} (f : Nat) : ∀ {l0 : Nat} {l1 : Int} {l2 : Int} {m : Mem}, X11_goesNight_L44 N f l0 l1 l2 m = some out → Jd g w 3 (rmL lv 0 0) (Qm g w none out) 44 [some (vR l0), some (vI l1), some (vI l2)] [] 312 m 0 0 := by
  induction f with
  | zero => intro l0 l1 l2 m h; exact none_ne (α := Mem) h
  | succ f ih => intro l0 l1 l2 m h; exact X11_goesNight_L44_bok C hlv (fun l0 l1 l2 m h => ih h) h
set_option maxRecDepth 100000 in
set_option maxHeartbeats 4000000 in
theorem X11_goesNight_ct {N : Nat} {l0 : Nat} {l1 : Int} {m : Mem} {out : Mem} (h : X11_goesNight N l0 l1 m = some out) : shK l0 = 11 + 10 ∧ CT yX11_goesNight cX11_goesNight 3 none 7 0 0 [vR l0, vI l1] 312 m none 312 out := by
  unfold X11_goesNight at h
  obtain ⟨hK, h⟩ := ite_some h
  have hlv : 6 < 7 := by decide
  refine ⟨hK, CT.of (by decide +kernel) rfl (Nat.le_of_ble_eq_true rfl) (ls := [some (vR l0), some (vI l1), none]) rfl fun g w C _ => ?_⟩
  refine j_iconst C dX11_goesNight_0 rfl ?_
  refine j_istore_n (ls' := [some (vR _), some (vI _), some (vI _)]) C dX11_goesNight_1 (by decide) rfl ?_
  refine X11_goesNight_L2_ok C hlv (fun z4 z5 m6 h => ?_) N h
  refine j_iconst C dX11_goesNight_21 rfl ?_
  refine j_istore_n (ls' := [some (vR _), some (vI _), some (vI _)]) C dX11_goesNight_22 (by decide) rfl ?_
  refine X11_goesNight_L23_ok C hlv (fun z10 z11 m12 h => ?_) N h
  refine j_iconst C dX11_goesNight_42 rfl ?_
  refine j_istore_n (ls' := [some (vR _), some (vI _), some (vI _)]) C dX11_goesNight_43 (by decide) rfl ?_
  exact X11_goesNight_L44_ok C hlv N h
theorem dX11_nightAsTold_0 : decode cX11_nightAsTold 0 = .ok (.iconst 0, 1) := by decide +kernel
theorem dX11_nightAsTold_1 : decode cX11_nightAsTold 1 = .ok (.istore_n 2, 1) := by decide +kernel
theorem dX11_nightAsTold_2 : decode cX11_nightAsTold 2 = .ok (.iload_n 2, 1) := by decide +kernel
theorem dX11_nightAsTold_3 : decode cX11_nightAsTold 3 = .ok (.bipush 12, 2) := by decide +kernel
theorem dX11_nightAsTold_5 : decode cX11_nightAsTold 5 = .ok (.if_icmp .ge 29, 3) := by decide +kernel
theorem dX11_nightAsTold_8 : decode cX11_nightAsTold 8 = .ok (.aload_n 0, 1) := by decide +kernel
theorem dX11_nightAsTold_9 : decode cX11_nightAsTold 9 = .ok (.getfield 200, 3) := by decide +kernel
theorem dX11_nightAsTold_12 : decode cX11_nightAsTold 12 = .ok (.iload_n 2, 1) := by decide +kernel
theorem dX11_nightAsTold_13 : decode cX11_nightAsTold 13 = .ok (.aload_n 0, 1) := by decide +kernel
theorem dX11_nightAsTold_14 : decode cX11_nightAsTold 14 = .ok (.getfield 93, 3) := by decide +kernel
theorem dX11_nightAsTold_17 : decode cX11_nightAsTold 17 = .ok (.bipush 12, 2) := by decide +kernel
theorem dX11_nightAsTold_19 : decode cX11_nightAsTold 19 = .ok (.aload_n 0, 1) := by decide +kernel
theorem dX11_nightAsTold_20 : decode cX11_nightAsTold 20 = .ok (.getfield 51, 3) := by decide +kernel
theorem dX11_nightAsTold_23 : decode cX11_nightAsTold 23 = .ok (.imul, 1) := by decide +kernel
theorem dX11_nightAsTold_24 : decode cX11_nightAsTold 24 = .ok (.iload_n 2, 1) := by decide +kernel
theorem dX11_nightAsTold_25 : decode cX11_nightAsTold 25 = .ok (.iadd, 1) := by decide +kernel
theorem dX11_nightAsTold_26 : decode cX11_nightAsTold 26 = .ok (.iaload, 1) := by decide +kernel
theorem dX11_nightAsTold_27 : decode cX11_nightAsTold 27 = .ok (.iastore, 1) := by decide +kernel
theorem dX11_nightAsTold_28 : decode cX11_nightAsTold 28 = .ok (.iinc 2 1, 3) := by decide +kernel
theorem dX11_nightAsTold_31 : decode cX11_nightAsTold 31 = .ok (.goto (-29), 3) := by decide +kernel
theorem dX11_nightAsTold_34 : decode cX11_nightAsTold 34 = .ok (.aload_n 0, 1) := by decide +kernel
theorem dX11_nightAsTold_35 : decode cX11_nightAsTold 35 = .ok (.iload_n 1, 1) := by decide +kernel
theorem dX11_nightAsTold_36 : decode cX11_nightAsTold 36 = .ok (.invokevirtual 521, 3) := by decide +kernel
theorem dX11_nightAsTold_39 : decode cX11_nightAsTold 39 = .ok (.return_, 1) := by decide +kernel
set_option maxRecDepth 100000 in
set_option maxHeartbeats 4000000 in
theorem X11_nightAsTold_L2_bok {g : Gm} {w : Wd} (C : Cx g w RX11 cX11_nightAsTold 3 none) {lv : Nat} (hlv : 7 < lv) {N : Nat} {k34 : Nat → Int → Mem → Option Mem} {r2 : Nat → Int → Int → Mem → Option Mem} {l0 : Nat} {l1 : Int} {l2 : Int} {m : Mem} {out : Mem} (hk34 : ∀ l0 l1 m, k34 l0 l1 m = some out → Jd g w 3 (rmL lv 0 0) (Qm g w none out) 34 [some (vR l0), some (vI l1), none] [] 312 m 0 0) (hr2 : ∀ l0 l1 l2 m, r2 l0 l1 l2 m = some out → Jd g w 3 (rmL lv 0 0) (Qm g w none out) 2 [some (vR l0), some (vI l1), some (vI l2)] [] 312 m 0 0) (h : X11_nightAsTold_L2_b N k34 r2 l0 l1 l2 m = some out) : Jd g w 3 (rmL lv 0 0) (Qm g w none out) 2 [some (vR l0), some (vI l1), some (vI l2)] [] 312 m 0 0 := by
  unfold X11_nightAsTold_L2_b at h
  refine j_iload_n C dX11_nightAsTold_2 rfl ?_
  refine j_bipush C dX11_nightAsTold_3 rfl ?_
  refine j_icmp_ge C 34 dX11_nightAsTold_5 rfl h (fun c6 h => ?_) (fun c6 h => ?_)
  · refine j_mask [true, true, false] (ls' := [some (vR _), some (vI _), none]) rfl ?_
    exact hk34 _ _ _ h
  · refine j_aload_n C dX11_nightAsTold_8 rfl ?_
    refine j_getR C dX11_nightAsTold_9 CF11 (by decide) fl_X11_200 rfl rfl h (fun t1 h => ?_)
    refine j_iload_n C dX11_nightAsTold_12 rfl ?_
    refine j_aload_n C dX11_nightAsTold_13 rfl ?_
    refine j_getR C dX11_nightAsTold_14 CF11 (by decide) fl_X11_93 rfl rfl h (fun t2 h => ?_)
    refine j_bipush C dX11_nightAsTold_17 rfl ?_
    refine j_aload_n C dX11_nightAsTold_19 rfl ?_
    refine j_getI C dX11_nightAsTold_20 CF11 (by decide) fl_X11_51 rfl rfl h (fun t3 h => ?_)
    refine j_imul C dX11_nightAsTold_23 ?_
    refine j_iload_n C dX11_nightAsTold_24 rfl ?_
    refine j_iadd C dX11_nightAsTold_25 ?_
    refine j_iald C dX11_nightAsTold_26 rfl h (fun t4 h => ?_)
    refine j_iast C dX11_nightAsTold_27 rfl h (fun m5 h => ?_)
    refine j_iinc (ls' := [some (vR _), some (vI _), some (vI _)]) C dX11_nightAsTold_28 rfl (by decide) rfl ?_
    refine j_goto C 2 dX11_nightAsTold_31 rfl ?_
    exact hr2 _ _ _ _ h
set_option maxRecDepth 100000 in
set_option maxHeartbeats 4000000 in
theorem X11_nightAsTold_L2_ok {g : Gm} {w : Wd} (C : Cx g w RX11 cX11_nightAsTold 3 none) {lv : Nat} (hlv : 7 < lv) {N : Nat} {k34 : Nat → Int → Mem → Option Mem} {out : Mem} (hk34 : ∀ l0 l1 m, k34 l0 l1 m = some out → Jd g w 3 (rmL lv 0 0) (Qm g w none out) 34 [some (vR l0), some (vI l1), none] [] 312 m 0 0) (f : Nat) : ∀ {l0 : Nat} {l1 : Int} {l2 : Int} {m : Mem}, X11_nightAsTold_L2 N k34 f l0 l1 l2 m = some out → Jd g w 3 (rmL lv 0 0) (Qm g w none out) 2 [some (vR l0), some (vI l1), some (vI l2)] [] 312 m 0 0 := by
  induction f with
  | zero => intro l0 l1 l2 m h; exact none_ne (α := Mem) h
  | succ f ih => intro l0 l1 l2 m h; exact X11_nightAsTold_L2_bok C hlv hk34 (fun l0 l1 l2 m h => ih h) h
set_option maxRecDepth 100000 in
set_option maxHeartbeats 4000000 in
theorem X11_nightAsTold_ct {N : Nat} {l0 : Nat} {l1 : Int} {m : Mem} {out : Mem} (h : X11_nightAsTold N l0 l1 m = some out) : shK l0 = 11 + 10 ∧ CT yX11_nightAsTold cX11_nightAsTold 3 none 8 0 0 [vR l0, vI l1] 312 m none 312 out := by
  unfold X11_nightAsTold at h
  obtain ⟨hK, h⟩ := ite_some h
  have hlv : 7 < 8 := by decide
  refine ⟨hK, CT.of (by decide +kernel) rfl (Nat.le_of_ble_eq_true rfl) (ls := [some (vR l0), some (vI l1), none]) rfl fun g w C _ => ?_⟩
  refine j_iconst C dX11_nightAsTold_0 rfl ?_
  refine j_istore_n (ls' := [some (vR _), some (vI _), some (vI _)]) C dX11_nightAsTold_1 (by decide) rfl ?_
  refine X11_nightAsTold_L2_ok C hlv (fun z7 z8 m9 h => ?_) N h
  refine j_aload_n C dX11_nightAsTold_34 rfl ?_
  refine j_iload_n C dX11_nightAsTold_35 rfl ?_
  obtain ⟨p10, ep10, h⟩ := bind_some h
  have qp10 := X11_goesNight_ct ep10
  refine j_cVV C dX11_nightAsTold_36 vl_X11_521 CF11 rfl qp10.1 qp10.2 (by omega) rfl rfl (Nat.le_of_ble_eq_true rfl) ?_
  have e := Option.some.inj h
  subst e
  exact j_rv C dX11_nightAsTold_39 rfl rfl
theorem dX11_apart_0 : decode cX11_apart 0 = .ok (.iload_n 1, 1) := by decide +kernel
theorem dX11_apart_1 : decode cX11_apart 1 = .ok (.aload_n 0, 1) := by decide +kernel
theorem dX11_apart_2 : decode cX11_apart 2 = .ok (.getfield 54, 3) := by decide +kernel
theorem dX11_apart_5 : decode cX11_apart 5 = .ok (.aload_n 0, 1) := by decide +kernel
theorem dX11_apart_6 : decode cX11_apart 6 = .ok (.getfield 51, 3) := by decide +kernel
theorem dX11_apart_9 : decode cX11_apart 9 = .ok (.iaload, 1) := by decide +kernel
theorem dX11_apart_10 : decode cX11_apart 10 = .ok (.irem, 1) := by decide +kernel
theorem dX11_apart_11 : decode cX11_apart 11 = .ok (.iload_n 2, 1) := by decide +kernel
theorem dX11_apart_12 : decode cX11_apart 12 = .ok (.aload_n 0, 1) := by decide +kernel
theorem dX11_apart_13 : decode cX11_apart 13 = .ok (.getfield 54, 3) := by decide +kernel
theorem dX11_apart_16 : decode cX11_apart 16 = .ok (.aload_n 0, 1) := by decide +kernel
theorem dX11_apart_17 : decode cX11_apart 17 = .ok (.getfield 51, 3) := by decide +kernel
theorem dX11_apart_20 : decode cX11_apart 20 = .ok (.iaload, 1) := by decide +kernel
theorem dX11_apart_21 : decode cX11_apart 21 = .ok (.irem, 1) := by decide +kernel
theorem dX11_apart_22 : decode cX11_apart 22 = .ok (.isub, 1) := by decide +kernel
theorem dX11_apart_23 : decode cX11_apart 23 = .ok (.istore_n 3, 1) := by decide +kernel
theorem dX11_apart_24 : decode cX11_apart 24 = .ok (.iload_n 1, 1) := by decide +kernel
theorem dX11_apart_25 : decode cX11_apart 25 = .ok (.aload_n 0, 1) := by decide +kernel
theorem dX11_apart_26 : decode cX11_apart 26 = .ok (.getfield 54, 3) := by decide +kernel
theorem dX11_apart_29 : decode cX11_apart 29 = .ok (.aload_n 0, 1) := by decide +kernel
theorem dX11_apart_30 : decode cX11_apart 30 = .ok (.getfield 51, 3) := by decide +kernel
theorem dX11_apart_33 : decode cX11_apart 33 = .ok (.iaload, 1) := by decide +kernel
theorem dX11_apart_34 : decode cX11_apart 34 = .ok (.idiv, 1) := by decide +kernel
theorem dX11_apart_35 : decode cX11_apart 35 = .ok (.iload_n 2, 1) := by decide +kernel
theorem dX11_apart_36 : decode cX11_apart 36 = .ok (.aload_n 0, 1) := by decide +kernel
theorem dX11_apart_37 : decode cX11_apart 37 = .ok (.getfield 54, 3) := by decide +kernel
theorem dX11_apart_40 : decode cX11_apart 40 = .ok (.aload_n 0, 1) := by decide +kernel
theorem dX11_apart_41 : decode cX11_apart 41 = .ok (.getfield 51, 3) := by decide +kernel
theorem dX11_apart_44 : decode cX11_apart 44 = .ok (.iaload, 1) := by decide +kernel
theorem dX11_apart_45 : decode cX11_apart 45 = .ok (.idiv, 1) := by decide +kernel
theorem dX11_apart_46 : decode cX11_apart 46 = .ok (.isub, 1) := by decide +kernel
theorem dX11_apart_47 : decode cX11_apart 47 = .ok (.istore 4, 2) := by decide +kernel
theorem dX11_apart_49 : decode cX11_apart 49 = .ok (.iload_n 3, 1) := by decide +kernel
theorem dX11_apart_50 : decode cX11_apart 50 = .ok (.ifCond .ge 8, 3) := by decide +kernel
theorem dX11_apart_53 : decode cX11_apart 53 = .ok (.iload_n 3, 1) := by decide +kernel
theorem dX11_apart_54 : decode cX11_apart 54 = .ok (.ineg, 1) := by decide +kernel
theorem dX11_apart_55 : decode cX11_apart 55 = .ok (.goto 4, 3) := by decide +kernel
theorem dX11_apart_58 : decode cX11_apart 58 = .ok (.iload_n 3, 1) := by decide +kernel
theorem dX11_apart_59 : decode cX11_apart 59 = .ok (.iload 4, 2) := by decide +kernel
theorem dX11_apart_61 : decode cX11_apart 61 = .ok (.ifCond .ge 9, 3) := by decide +kernel
theorem dX11_apart_64 : decode cX11_apart 64 = .ok (.iload 4, 2) := by decide +kernel
theorem dX11_apart_66 : decode cX11_apart 66 = .ok (.ineg, 1) := by decide +kernel
theorem dX11_apart_67 : decode cX11_apart 67 = .ok (.goto 5, 3) := by decide +kernel
theorem dX11_apart_70 : decode cX11_apart 70 = .ok (.iload 4, 2) := by decide +kernel
theorem dX11_apart_72 : decode cX11_apart 72 = .ok (.iadd, 1) := by decide +kernel
theorem dX11_apart_73 : decode cX11_apart 73 = .ok (.ireturn, 1) := by decide +kernel
set_option maxRecDepth 100000 in
set_option maxHeartbeats 4000000 in
theorem X11_apart_J72_ok {g : Gm} {w : Wd} (C : Cx g w RX11 cX11_apart 5 (some .int)) {lv : Nat} (hlv : 0 < lv) {s0 : Int} {s1 : Int} {m : Mem} {out : Int} (h : X11_apart_J72 s0 s1 m = some out) : Jd g w 5 (rmL lv 0 0) (Qm g w (some (vI out)) m) 72 [none, none, none, none, none] [vI s1, vI s0] 312 m 0 0 := by
  unfold X11_apart_J72 at h
  refine j_iadd C dX11_apart_72 ?_
  exact j_ri C dX11_apart_73 rfl (Option.some.inj h).symm rfl
set_option maxRecDepth 100000 in
set_option maxHeartbeats 4000000 in
theorem X11_apart_J59_ok {g : Gm} {w : Wd} (C : Cx g w RX11 cX11_apart 5 (some .int)) {lv : Nat} (hlv : 0 < lv) {l4 : Int} {s0 : Int} {m : Mem} {out : Int} (h : X11_apart_J59 l4 s0 m = some out) : Jd g w 5 (rmL lv 0 0) (Qm g w (some (vI out)) m) 59 [none, none, none, none, some (vI l4)] [vI s0] 312 m 0 0 := by
  unfold X11_apart_J59 at h
  refine j_iload C dX11_apart_59 rfl ?_
  refine j_if_ge C 70 dX11_apart_61 rfl h (fun c17 h => ?_) (fun c17 h => ?_)
  · refine j_iload C dX11_apart_70 rfl ?_
    refine j_mask [false, false, false, false, false] (ls' := [none, none, none, none, none]) rfl ?_
    exact X11_apart_J72_ok C hlv h
  · refine j_iload C dX11_apart_64 rfl ?_
    refine j_ineg C dX11_apart_66 ?_
    refine j_goto C 72 dX11_apart_67 rfl ?_
    refine j_mask [false, false, false, false, false] (ls' := [none, none, none, none, none]) rfl ?_
    exact X11_apart_J72_ok C hlv h
set_option maxRecDepth 100000 in
set_option maxHeartbeats 4000000 in
theorem X11_apart_ct {l0 : Nat} {l1 : Int} {l2 : Int} {m : Mem} {out : Int} (h : X11_apart l0 l1 l2 m = some out) : shK l0 = 11 + 10 ∧ CT yX11_apart cX11_apart 5 (some .int) 1 0 0 [vR l0, vI l1, vI l2] 312 m (some (vI out)) 312 m := by
  unfold X11_apart at h
  obtain ⟨hK, h⟩ := ite_some h
  have hlv : 0 < 1 := by decide
  refine ⟨hK, CT.of (by decide +kernel) rfl (Nat.le_of_ble_eq_true rfl) (ls := [some (vR l0), some (vI l1), some (vI l2), none, none]) rfl fun g w C _ => ?_⟩
  refine j_iload_n C dX11_apart_0 rfl ?_
  refine j_aload_n C dX11_apart_1 rfl ?_
  refine j_getR C dX11_apart_2 CF11 (by decide) fl_X11_54 rfl rfl h (fun t1 h => ?_)
  refine j_aload_n C dX11_apart_5 rfl ?_
  refine j_getI C dX11_apart_6 CF11 (by decide) fl_X11_51 rfl rfl h (fun t2 h => ?_)
  refine j_iald C dX11_apart_9 rfl h (fun t3 h => ?_)
  obtain ⟨c4, h⟩ := ite_none h
  refine j_irem C dX11_apart_10 c4 ?_
  refine j_iload_n C dX11_apart_11 rfl ?_
  refine j_aload_n C dX11_apart_12 rfl ?_
  refine j_getR C dX11_apart_13 CF11 (by decide) fl_X11_54 rfl rfl h (fun t5 h => ?_)
  refine j_aload_n C dX11_apart_16 rfl ?_
  refine j_getI C dX11_apart_17 CF11 (by decide) fl_X11_51 rfl rfl h (fun t6 h => ?_)
  refine j_iald C dX11_apart_20 rfl h (fun t7 h => ?_)
  obtain ⟨c8, h⟩ := ite_none h
  refine j_irem C dX11_apart_21 c8 ?_
  refine j_isub C dX11_apart_22 ?_
  refine j_istore_n (ls' := [some (vR _), some (vI _), some (vI _), some (vI _), none]) C dX11_apart_23 (by decide) rfl ?_
  refine j_iload_n C dX11_apart_24 rfl ?_
  refine j_aload_n C dX11_apart_25 rfl ?_
  refine j_getR C dX11_apart_26 CF11 (by decide) fl_X11_54 rfl rfl h (fun t9 h => ?_)
  refine j_aload_n C dX11_apart_29 rfl ?_
  refine j_getI C dX11_apart_30 CF11 (by decide) fl_X11_51 rfl rfl h (fun t10 h => ?_)
  refine j_iald C dX11_apart_33 rfl h (fun t11 h => ?_)
  obtain ⟨c12, h⟩ := ite_none h
  refine j_idiv C dX11_apart_34 c12 ?_
  refine j_iload_n C dX11_apart_35 rfl ?_
  refine j_aload_n C dX11_apart_36 rfl ?_
  refine j_getR C dX11_apart_37 CF11 (by decide) fl_X11_54 rfl rfl h (fun t13 h => ?_)
  refine j_aload_n C dX11_apart_40 rfl ?_
  refine j_getI C dX11_apart_41 CF11 (by decide) fl_X11_51 rfl rfl h (fun t14 h => ?_)
  refine j_iald C dX11_apart_44 rfl h (fun t15 h => ?_)
  obtain ⟨c16, h⟩ := ite_none h
  refine j_idiv C dX11_apart_45 c16 ?_
  refine j_isub C dX11_apart_46 ?_
  refine j_istore (ls' := [some (vR _), some (vI _), some (vI _), some (vI _), some (vI _)]) C dX11_apart_47 (by decide) rfl ?_
  refine j_iload_n C dX11_apart_49 rfl ?_
  refine j_if_ge C 58 dX11_apart_50 rfl h (fun c18 h => ?_) (fun c18 h => ?_)
  · refine j_iload_n C dX11_apart_58 rfl ?_
    refine j_mask [false, false, false, false, true] (ls' := [none, none, none, none, some (vI _)]) rfl ?_
    exact X11_apart_J59_ok C hlv h
  · refine j_iload_n C dX11_apart_53 rfl ?_
    refine j_ineg C dX11_apart_54 ?_
    refine j_goto C 59 dX11_apart_55 rfl ?_
    refine j_mask [false, false, false, false, true] (ls' := [none, none, none, none, some (vI _)]) rfl ?_
    exact X11_apart_J59_ok C hlv h
theorem dX11_cisternOf_0 : decode cX11_cisternOf 0 = .ok (.iconst (-1), 1) := by decide +kernel
theorem dX11_cisternOf_1 : decode cX11_cisternOf 1 = .ok (.istore_n 3, 1) := by decide +kernel
theorem dX11_cisternOf_2 : decode cX11_cisternOf 2 = .ok (.aload_n 0, 1) := by decide +kernel
theorem dX11_cisternOf_3 : decode cX11_cisternOf 3 = .ok (.getfield 170, 3) := by decide +kernel
theorem dX11_cisternOf_6 : decode cX11_cisternOf 6 = .ok (.bipush 10, 2) := by decide +kernel
theorem dX11_cisternOf_8 : decode cX11_cisternOf 8 = .ok (.iload_n 1, 1) := by decide +kernel
theorem dX11_cisternOf_9 : decode cX11_cisternOf 9 = .ok (.imul, 1) := by decide +kernel
theorem dX11_cisternOf_10 : decode cX11_cisternOf 10 = .ok (.iload_n 2, 1) := by decide +kernel
theorem dX11_cisternOf_11 : decode cX11_cisternOf 11 = .ok (.iadd, 1) := by decide +kernel
theorem dX11_cisternOf_12 : decode cX11_cisternOf 12 = .ok (.iaload, 1) := by decide +kernel
theorem dX11_cisternOf_13 : decode cX11_cisternOf 13 = .ok (.istore 4, 2) := by decide +kernel
theorem dX11_cisternOf_15 : decode cX11_cisternOf 15 = .ok (.iconst 0, 1) := by decide +kernel
theorem dX11_cisternOf_16 : decode cX11_cisternOf 16 = .ok (.istore 5, 2) := by decide +kernel
theorem dX11_cisternOf_18 : decode cX11_cisternOf 18 = .ok (.iload 5, 2) := by decide +kernel
theorem dX11_cisternOf_20 : decode cX11_cisternOf 20 = .ok (.aload_n 0, 1) := by decide +kernel
theorem dX11_cisternOf_21 : decode cX11_cisternOf 21 = .ok (.getfield 75, 3) := by decide +kernel
theorem dX11_cisternOf_24 : decode cX11_cisternOf 24 = .ok (.aload_n 0, 1) := by decide +kernel
theorem dX11_cisternOf_25 : decode cX11_cisternOf 25 = .ok (.getfield 51, 3) := by decide +kernel
theorem dX11_cisternOf_28 : decode cX11_cisternOf 28 = .ok (.iaload, 1) := by decide +kernel
theorem dX11_cisternOf_29 : decode cX11_cisternOf 29 = .ok (.if_icmp .ge 59, 3) := by decide +kernel
theorem dX11_cisternOf_32 : decode cX11_cisternOf 32 = .ok (.iload_n 3, 1) := by decide +kernel
theorem dX11_cisternOf_33 : decode cX11_cisternOf 33 = .ok (.iconst (-1), 1) := by decide +kernel
theorem dX11_cisternOf_34 : decode cX11_cisternOf 34 = .ok (.if_icmp .eq 45, 3) := by decide +kernel
theorem dX11_cisternOf_37 : decode cX11_cisternOf 37 = .ok (.aload_n 0, 1) := by decide +kernel
theorem dX11_cisternOf_38 : decode cX11_cisternOf 38 = .ok (.iload 4, 2) := by decide +kernel
theorem dX11_cisternOf_40 : decode cX11_cisternOf 40 = .ok (.aload_n 0, 1) := by decide +kernel
theorem dX11_cisternOf_41 : decode cX11_cisternOf 41 = .ok (.getfield 78, 3) := by decide +kernel
theorem dX11_cisternOf_44 : decode cX11_cisternOf 44 = .ok (.iconst 5, 1) := by decide +kernel
theorem dX11_cisternOf_45 : decode cX11_cisternOf 45 = .ok (.aload_n 0, 1) := by decide +kernel
theorem dX11_cisternOf_46 : decode cX11_cisternOf 46 = .ok (.getfield 51, 3) := by decide +kernel
theorem dX11_cisternOf_49 : decode cX11_cisternOf 49 = .ok (.imul, 1) := by decide +kernel
theorem dX11_cisternOf_50 : decode cX11_cisternOf 50 = .ok (.iload 5, 2) := by decide +kernel
theorem dX11_cisternOf_52 : decode cX11_cisternOf 52 = .ok (.iadd, 1) := by decide +kernel
theorem dX11_cisternOf_53 : decode cX11_cisternOf 53 = .ok (.iaload, 1) := by decide +kernel
theorem dX11_cisternOf_54 : decode cX11_cisternOf 54 = .ok (.invokevirtual 467, 3) := by decide +kernel
theorem dX11_cisternOf_57 : decode cX11_cisternOf 57 = .ok (.aload_n 0, 1) := by decide +kernel
theorem dX11_cisternOf_58 : decode cX11_cisternOf 58 = .ok (.iload 4, 2) := by decide +kernel
theorem dX11_cisternOf_60 : decode cX11_cisternOf 60 = .ok (.aload_n 0, 1) := by decide +kernel
theorem dX11_cisternOf_61 : decode cX11_cisternOf 61 = .ok (.getfield 78, 3) := by decide +kernel
theorem dX11_cisternOf_64 : decode cX11_cisternOf 64 = .ok (.iconst 5, 1) := by decide +kernel
theorem dX11_cisternOf_65 : decode cX11_cisternOf 65 = .ok (.aload_n 0, 1) := by decide +kernel
theorem dX11_cisternOf_66 : decode cX11_cisternOf 66 = .ok (.getfield 51, 3) := by decide +kernel
theorem dX11_cisternOf_69 : decode cX11_cisternOf 69 = .ok (.imul, 1) := by decide +kernel
theorem dX11_cisternOf_70 : decode cX11_cisternOf 70 = .ok (.iload_n 3, 1) := by decide +kernel
theorem dX11_cisternOf_71 : decode cX11_cisternOf 71 = .ok (.iadd, 1) := by decide +kernel
theorem dX11_cisternOf_72 : decode cX11_cisternOf 72 = .ok (.iaload, 1) := by decide +kernel
theorem dX11_cisternOf_73 : decode cX11_cisternOf 73 = .ok (.invokevirtual 467, 3) := by decide +kernel
theorem dX11_cisternOf_76 : decode cX11_cisternOf 76 = .ok (.if_icmp .ge 6, 3) := by decide +kernel
theorem dX11_cisternOf_79 : decode cX11_cisternOf 79 = .ok (.iload 5, 2) := by decide +kernel
theorem dX11_cisternOf_81 : decode cX11_cisternOf 81 = .ok (.istore_n 3, 1) := by decide +kernel
theorem dX11_cisternOf_82 : decode cX11_cisternOf 82 = .ok (.iinc 5 1, 3) := by decide +kernel
theorem dX11_cisternOf_85 : decode cX11_cisternOf 85 = .ok (.goto (-67), 3) := by decide +kernel
theorem dX11_cisternOf_88 : decode cX11_cisternOf 88 = .ok (.iload_n 3, 1) := by decide +kernel
theorem dX11_cisternOf_89 : decode cX11_cisternOf 89 = .ok (.ireturn, 1) := by decide +kernel
set_option maxRecDepth 100000 in
set_option maxHeartbeats 4000000 in
theorem X11_cisternOf_J82_ok {g : Gm} {w : Wd} (C : Cx g w RX11 cX11_cisternOf 6 (some .int)) {lv : Nat} (hlv : 1 < lv) {N : Nat} {r18 : Nat → Int → Int → Int → Option Int } {l0 : Nat} {l3 : Int} {l4 : Int} {l5 : Int} {m : Mem} {out : Int} (hr18 : ∀ l0 l3 l4 l5, r18 l0 l3 l4 l5 = some out → Jd g w 6 (rmL lv 0 0) (Qm g w (some (vI out)) m) 18 [some (vR l0), none, none, some (vI l3), some (vI l4), some (vI l5)] [] 312 m 0 0) (h : X11_cisternOf_J82 N r18 l0 l3 l4 l5 m = some out) : Jd g w 6 (rmL lv 0 0) (Qm g w (some (vI out)) m) 82 [some (vR l0), none, none, some (vI l3), some (vI l4), some (vI l5)] [] 312 m 0 0 := by
  unfold X11_cisternOf_J82 at h
  refine j_iinc (ls' := [some (vR _), none, none, some (vI _), some (vI _), some (vI _)]) C dX11_cisternOf_82 rfl (by decide) rfl ?_
  refine j_goto C 18 dX11_cisternOf_85 rfl ?_
  exact hr18 _ _ _ _ h
set_option maxRecDepth 100000 in
set_option maxHeartbeats 4000000 in
theorem X11_cisternOf_J79_ok {g : Gm} {w : Wd} (C : Cx g w RX11 cX11_cisternOf 6 (some .int)) {lv : Nat} (hlv : 1 < lv) {N : Nat} {r18 : Nat → Int → Int → Int → Option Int } {l0 : Nat} {l4 : Int} {l5 : Int} {m : Mem} {out : Int} (hr18 : ∀ l0 l3 l4 l5, r18 l0 l3 l4 l5 = some out → Jd g w 6 (rmL lv 0 0) (Qm g w (some (vI out)) m) 18 [some (vR l0), none, none, some (vI l3), some (vI l4), some (vI l5)] [] 312 m 0 0) (h : X11_cisternOf_J79 N r18 l0 l4 l5 m = some out) : Jd g w 6 (rmL lv 0 0) (Qm g w (some (vI out)) m) 79 [some (vR l0), none, none, none, some (vI l4), some (vI l5)] [] 312 m 0 0 := by
  unfold X11_cisternOf_J79 at h
  refine j_iload C dX11_cisternOf_79 rfl ?_
  refine j_istore_n (ls' := [some (vR _), none, none, some (vI _), some (vI _), some (vI _)]) C dX11_cisternOf_81 (by decide) rfl ?_
  exact X11_cisternOf_J82_ok C hlv hr18 h
set_option maxRecDepth 100000 in
set_option maxHeartbeats 4000000 in
theorem X11_cisternOf_L18_bok {g : Gm} {w : Wd} (C : Cx g w RX11 cX11_cisternOf 6 (some .int)) {lv : Nat} (hlv : 1 < lv) {N : Nat} {r18 : Nat → Int → Int → Int → Option Int} {l0 : Nat} {l3 : Int} {l4 : Int} {l5 : Int} {m : Mem} {out : Int} (hr18 : ∀ l0 l3 l4 l5, r18 l0 l3 l4 l5 = some out → Jd g w 6 (rmL lv 0 0) (Qm g w (some (vI out)) m) 18 [some (vR l0), none, none, some (vI l3), some (vI l4), some (vI l5)] [] 312 m 0 0) (h : X11_cisternOf_L18_b N m r18 l0 l3 l4 l5 = some out) : Jd g w 6 (rmL lv 0 0) (Qm g w (some (vI out)) m) 18 [some (vR l0), none, none, some (vI l3), some (vI l4), some (vI l5)] [] 312 m 0 0 := by
  unfold X11_cisternOf_L18_b at h
  refine j_iload C dX11_cisternOf_18 rfl ?_
  refine j_aload_n C dX11_cisternOf_20 rfl ?_
  refine j_getR C dX11_cisternOf_21 CF11 (by decide) fl_X11_75 rfl rfl h (fun t3 h => ?_)
  refine j_aload_n C dX11_cisternOf_24 rfl ?_
  refine j_getI C dX11_cisternOf_25 CF11 (by decide) fl_X11_51 rfl rfl h (fun t4 h => ?_)
  refine j_iald C dX11_cisternOf_28 rfl h (fun t5 h => ?_)
  refine j_icmp_ge C 88 dX11_cisternOf_29 rfl h (fun c16 h => ?_) (fun c16 h => ?_)
  · refine j_iload_n C dX11_cisternOf_88 rfl ?_
    exact j_ri C dX11_cisternOf_89 rfl (Option.some.inj h).symm rfl
  · refine j_iload_n C dX11_cisternOf_32 rfl ?_
    refine j_iconst C dX11_cisternOf_33 rfl ?_
    refine j_icmp_eq C 79 dX11_cisternOf_34 rfl h (fun c15 h => ?_) (fun c15 h => ?_)
    · refine j_mask [true, false, false, false, true, true] (ls' := [some (vR _), none, none, none, some (vI _), some (vI _)]) rfl ?_
      exact X11_cisternOf_J79_ok C hlv hr18 h
    · refine j_aload_n C dX11_cisternOf_37 rfl ?_
      refine j_iload C dX11_cisternOf_38 rfl ?_
      refine j_aload_n C dX11_cisternOf_40 rfl ?_
      refine j_getR C dX11_cisternOf_41 CF11 (by decide) fl_X11_78 rfl rfl h (fun t6 h => ?_)
      refine j_iconst C dX11_cisternOf_44 rfl ?_
      refine j_aload_n C dX11_cisternOf_45 rfl ?_
      refine j_getI C dX11_cisternOf_46 CF11 (by decide) fl_X11_51 rfl rfl h (fun t7 h => ?_)
      refine j_imul C dX11_cisternOf_49 ?_
      refine j_iload C dX11_cisternOf_50 rfl ?_
      refine j_iadd C dX11_cisternOf_52 ?_
      refine j_iald C dX11_cisternOf_53 rfl h (fun t8 h => ?_)
      obtain ⟨p9, ep9, h⟩ := bind_some h
      have qp9 := X11_apart_ct ep9
      refine j_cVI C dX11_cisternOf_54 vl_X11_467 CF11 rfl qp9.1 qp9.2 (by omega) rfl rfl (Nat.le_of_ble_eq_true rfl) ?_
      refine j_aload_n C dX11_cisternOf_57 rfl ?_
      refine j_iload C dX11_cisternOf_58 rfl ?_
      refine j_aload_n C dX11_cisternOf_60 rfl ?_
      refine j_getR C dX11_cisternOf_61 CF11 (by decide) fl_X11_78 rfl rfl h (fun t10 h => ?_)
      refine j_iconst C dX11_cisternOf_64 rfl ?_
      refine j_aload_n C dX11_cisternOf_65 rfl ?_
      refine j_getI C dX11_cisternOf_66 CF11 (by decide) fl_X11_51 rfl rfl h (fun t11 h => ?_)
      refine j_imul C dX11_cisternOf_69 ?_
      refine j_iload_n C dX11_cisternOf_70 rfl ?_
      refine j_iadd C dX11_cisternOf_71 ?_
      refine j_iald C dX11_cisternOf_72 rfl h (fun t12 h => ?_)
      obtain ⟨p13, ep13, h⟩ := bind_some h
      have qp13 := X11_apart_ct ep13
      refine j_cVI C dX11_cisternOf_73 vl_X11_467 CF11 rfl qp13.1 qp13.2 (by omega) rfl rfl (Nat.le_of_ble_eq_true rfl) ?_
      refine j_icmp_ge C 82 dX11_cisternOf_76 rfl h (fun c14 h => ?_) (fun c14 h => ?_)
      · exact X11_cisternOf_J82_ok C hlv hr18 h
      · refine j_mask [true, false, false, false, true, true] (ls' := [some (vR _), none, none, none, some (vI _), some (vI _)]) rfl ?_
        exact X11_cisternOf_J79_ok C hlv hr18 h
set_option maxRecDepth 100000 in
set_option maxHeartbeats 4000000 in
theorem X11_cisternOf_L18_ok {g : Gm} {w : Wd} (C : Cx g w RX11 cX11_cisternOf 6 (some .int)) {lv : Nat} (hlv : 1 < lv) {N : Nat} {m : Mem} {out : Int} (f : Nat) : ∀ {l0 : Nat} {l3 : Int} {l4 : Int} {l5 : Int}, X11_cisternOf_L18 N m f l0 l3 l4 l5 = some out → Jd g w 6 (rmL lv 0 0) (Qm g w (some (vI out)) m) 18 [some (vR l0), none, none, some (vI l3), some (vI l4), some (vI l5)] [] 312 m 0 0 := by
  induction f with
  | zero => intro l0 l3 l4 l5 h; exact none_ne (α := Int) h
  | succ f ih => intro l0 l3 l4 l5 h; exact X11_cisternOf_L18_bok C hlv (fun l0 l3 l4 l5 h => ih h) h
set_option maxRecDepth 100000 in
set_option maxHeartbeats 4000000 in
theorem X11_cisternOf_ct {N : Nat} {l0 : Nat} {l1 : Int} {l2 : Int} {m : Mem} {out : Int} (h : X11_cisternOf N l0 l1 l2 m = some out) : shK l0 = 11 + 10 ∧ CT yX11_cisternOf cX11_cisternOf 6 (some .int) 2 0 0 [vR l0, vI l1, vI l2] 312 m (some (vI out)) 312 m := by
  unfold X11_cisternOf at h
  obtain ⟨hK, h⟩ := ite_some h
  have hlv : 1 < 2 := by decide
  refine ⟨hK, CT.of (by decide +kernel) rfl (Nat.le_of_ble_eq_true rfl) (ls := [some (vR l0), some (vI l1), some (vI l2), none, none, none]) rfl fun g w C _ => ?_⟩
  refine j_iconst C dX11_cisternOf_0 rfl ?_
  refine j_istore_n (ls' := [some (vR _), some (vI _), some (vI _), some (vI _), none, none]) C dX11_cisternOf_1 (by decide) rfl ?_
  refine j_aload_n C dX11_cisternOf_2 rfl ?_
  refine j_getR C dX11_cisternOf_3 CF11 (by decide) fl_X11_170 rfl rfl h (fun t1 h => ?_)
  refine j_bipush C dX11_cisternOf_6 rfl ?_
  refine j_iload_n C dX11_cisternOf_8 rfl ?_
  refine j_imul C dX11_cisternOf_9 ?_
  refine j_iload_n C dX11_cisternOf_10 rfl ?_
  refine j_iadd C dX11_cisternOf_11 ?_
  refine j_iald C dX11_cisternOf_12 rfl h (fun t2 h => ?_)
  refine j_istore (ls' := [some (vR _), some (vI _), some (vI _), some (vI _), some (vI _), none]) C dX11_cisternOf_13 (by decide) rfl ?_
  refine j_iconst C dX11_cisternOf_15 rfl ?_
  refine j_istore (ls' := [some (vR _), some (vI _), some (vI _), some (vI _), some (vI _), some (vI _)]) C dX11_cisternOf_16 (by decide) rfl ?_
  refine j_mask [true, false, false, true, true, true] (ls' := [some (vR _), none, none, some (vI _), some (vI _), some (vI _)]) rfl ?_
  exact X11_cisternOf_L18_ok C hlv N h
theorem dX11_dawnOf_0 : decode cX11_dawnOf 0 = .ok (.aload_n 0, 1) := by decide +kernel
theorem dX11_dawnOf_1 : decode cX11_dawnOf 1 = .ok (.getfield 212, 3) := by decide +kernel
theorem dX11_dawnOf_4 : decode cX11_dawnOf 4 = .ok (.bipush 120, 2) := by decide +kernel
theorem dX11_dawnOf_6 : decode cX11_dawnOf 6 = .ok (.iload_n 1, 1) := by decide +kernel
theorem dX11_dawnOf_7 : decode cX11_dawnOf 7 = .ok (.iadd, 1) := by decide +kernel
theorem dX11_dawnOf_8 : decode cX11_dawnOf 8 = .ok (.iaload, 1) := by decide +kernel
theorem dX11_dawnOf_9 : decode cX11_dawnOf 9 = .ok (.ireturn, 1) := by decide +kernel
set_option maxRecDepth 100000 in
set_option maxHeartbeats 4000000 in
theorem X11_dawnOf_ct {l0 : Nat} {l1 : Int} {m : Mem} {out : Int} (h : X11_dawnOf l0 l1 m = some out) : shK l0 = 11 + 10 ∧ CT yX11_dawnOf cX11_dawnOf 2 (some .int) 1 0 0 [vR l0, vI l1] 312 m (some (vI out)) 312 m := by
  unfold X11_dawnOf at h
  obtain ⟨hK, h⟩ := ite_some h
  have hlv : 0 < 1 := by decide
  refine ⟨hK, CT.of (by decide +kernel) rfl (Nat.le_of_ble_eq_true rfl) (ls := [some (vR l0), some (vI l1)]) rfl fun g w C _ => ?_⟩
  refine j_aload_n C dX11_dawnOf_0 rfl ?_
  refine j_getR C dX11_dawnOf_1 CF11 (by decide) fl_X11_212 rfl rfl h (fun t1 h => ?_)
  refine j_bipush C dX11_dawnOf_4 rfl ?_
  refine j_iload_n C dX11_dawnOf_6 rfl ?_
  refine j_iadd C dX11_dawnOf_7 ?_
  refine j_iald C dX11_dawnOf_8 rfl h (fun t2 h => ?_)
  exact j_ri C dX11_dawnOf_9 rfl (Option.some.inj h).symm rfl
theorem dX11_comes_0 : decode cX11_comes 0 = .ok (.iconst 0, 1) := by decide +kernel
theorem dX11_comes_1 : decode cX11_comes 1 = .ok (.istore_n 3, 1) := by decide +kernel
theorem dX11_comes_2 : decode cX11_comes 2 = .ok (.iconst 0, 1) := by decide +kernel
theorem dX11_comes_3 : decode cX11_comes 3 = .ok (.istore 4, 2) := by decide +kernel
theorem dX11_comes_5 : decode cX11_comes 5 = .ok (.iload 4, 2) := by decide +kernel
theorem dX11_comes_7 : decode cX11_comes 7 = .ok (.aload_n 0, 1) := by decide +kernel
theorem dX11_comes_8 : decode cX11_comes 8 = .ok (.getfield 81, 3) := by decide +kernel
theorem dX11_comes_11 : decode cX11_comes 11 = .ok (.aload_n 0, 1) := by decide +kernel
theorem dX11_comes_12 : decode cX11_comes 12 = .ok (.getfield 51, 3) := by decide +kernel
theorem dX11_comes_15 : decode cX11_comes 15 = .ok (.iaload, 1) := by decide +kernel
theorem dX11_comes_16 : decode cX11_comes 16 = .ok (.if_icmp .ge 33, 3) := by decide +kernel
theorem dX11_comes_19 : decode cX11_comes 19 = .ok (.iload_n 3, 1) := by decide +kernel
theorem dX11_comes_20 : decode cX11_comes 20 = .ok (.aload_n 0, 1) := by decide +kernel
theorem dX11_comes_21 : decode cX11_comes 21 = .ok (.iload_n 1, 1) := by decide +kernel
theorem dX11_comes_22 : decode cX11_comes 22 = .ok (.iload 4, 2) := by decide +kernel
theorem dX11_comes_24 : decode cX11_comes 24 = .ok (.invokevirtual 515, 3) := by decide +kernel
theorem dX11_comes_27 : decode cX11_comes 27 = .ok (.iload_n 2, 1) := by decide +kernel
theorem dX11_comes_28 : decode cX11_comes 28 = .ok (.if_icmp .ne 12, 3) := by decide +kernel
theorem dX11_comes_31 : decode cX11_comes 31 = .ok (.aload_n 0, 1) := by decide +kernel
theorem dX11_comes_32 : decode cX11_comes 32 = .ok (.iload 4, 2) := by decide +kernel
theorem dX11_comes_34 : decode cX11_comes 34 = .ok (.invokevirtual 518, 3) := by decide +kernel
theorem dX11_comes_37 : decode cX11_comes 37 = .ok (.goto 4, 3) := by decide +kernel
theorem dX11_comes_40 : decode cX11_comes 40 = .ok (.iconst 0, 1) := by decide +kernel
theorem dX11_comes_41 : decode cX11_comes 41 = .ok (.iadd, 1) := by decide +kernel
theorem dX11_comes_42 : decode cX11_comes 42 = .ok (.istore_n 3, 1) := by decide +kernel
theorem dX11_comes_43 : decode cX11_comes 43 = .ok (.iinc 4 1, 3) := by decide +kernel
theorem dX11_comes_46 : decode cX11_comes 46 = .ok (.goto (-41), 3) := by decide +kernel
theorem dX11_comes_49 : decode cX11_comes 49 = .ok (.iload_n 3, 1) := by decide +kernel
theorem dX11_comes_50 : decode cX11_comes 50 = .ok (.ireturn, 1) := by decide +kernel
set_option maxRecDepth 100000 in
set_option maxHeartbeats 4000000 in
theorem X11_comes_J41_ok {g : Gm} {w : Wd} (C : Cx g w RX11 cX11_comes 5 (some .int)) {lv : Nat} (hlv : 2 < lv) {N : Nat} {r5 : Nat → Int → Int → Int → Int → Option Int } {l0 : Nat} {l1 : Int} {l2 : Int} {l4 : Int} {s0 : Int} {s1 : Int} {m : Mem} {out : Int} (hr5 : ∀ l0 l1 l2 l3 l4, r5 l0 l1 l2 l3 l4 = some out → Jd g w 5 (rmL lv 0 0) (Qm g w (some (vI out)) m) 5 [some (vR l0), some (vI l1), some (vI l2), some (vI l3), some (vI l4)] [] 312 m 0 0) (h : X11_comes_J41 N r5 l0 l1 l2 l4 s0 s1 m = some out) : Jd g w 5 (rmL lv 0 0) (Qm g w (some (vI out)) m) 41 [some (vR l0), some (vI l1), some (vI l2), none, some (vI l4)] [vI s1, vI s0] 312 m 0 0 := by
  unfold X11_comes_J41 at h
  refine j_iadd C dX11_comes_41 ?_
  refine j_istore_n (ls' := [some (vR _), some (vI _), some (vI _), some (vI _), some (vI _)]) C dX11_comes_42 (by decide) rfl ?_
  refine j_iinc (ls' := [some (vR _), some (vI _), some (vI _), some (vI _), some (vI _)]) C dX11_comes_43 rfl (by decide) rfl ?_
  refine j_goto C 5 dX11_comes_46 rfl ?_
  exact hr5 _ _ _ _ _ h
set_option maxRecDepth 100000 in
set_option maxHeartbeats 4000000 in
theorem X11_comes_L5_bok {g : Gm} {w : Wd} (C : Cx g w RX11 cX11_comes 5 (some .int)) {lv : Nat} (hlv : 2 < lv) {N : Nat} {r5 : Nat → Int → Int → Int → Int → Option Int} {l0 : Nat} {l1 : Int} {l2 : Int} {l3 : Int} {l4 : Int} {m : Mem} {out : Int} (hr5 : ∀ l0 l1 l2 l3 l4, r5 l0 l1 l2 l3 l4 = some out → Jd g w 5 (rmL lv 0 0) (Qm g w (some (vI out)) m) 5 [some (vR l0), some (vI l1), some (vI l2), some (vI l3), some (vI l4)] [] 312 m 0 0) (h : X11_comes_L5_b N m r5 l0 l1 l2 l3 l4 = some out) : Jd g w 5 (rmL lv 0 0) (Qm g w (some (vI out)) m) 5 [some (vR l0), some (vI l1), some (vI l2), some (vI l3), some (vI l4)] [] 312 m 0 0 := by
  unfold X11_comes_L5_b at h
  refine j_iload C dX11_comes_5 rfl ?_
  refine j_aload_n C dX11_comes_7 rfl ?_
  refine j_getR C dX11_comes_8 CF11 (by decide) fl_X11_81 rfl rfl h (fun t1 h => ?_)
  refine j_aload_n C dX11_comes_11 rfl ?_
  refine j_getI C dX11_comes_12 CF11 (by decide) fl_X11_51 rfl rfl h (fun t2 h => ?_)
  refine j_iald C dX11_comes_15 rfl h (fun t3 h => ?_)
  refine j_icmp_ge C 49 dX11_comes_16 rfl h (fun c7 h => ?_) (fun c7 h => ?_)
  · refine j_iload_n C dX11_comes_49 rfl ?_
    exact j_ri C dX11_comes_50 rfl (Option.some.inj h).symm rfl
  · refine j_iload_n C dX11_comes_19 rfl ?_
    refine j_aload_n C dX11_comes_20 rfl ?_
    refine j_iload_n C dX11_comes_21 rfl ?_
    refine j_iload C dX11_comes_22 rfl ?_
    obtain ⟨p4, ep4, h⟩ := bind_some h
    have qp4 := X11_cisternOf_ct ep4
    refine j_cVI C dX11_comes_24 vl_X11_515 CF11 rfl qp4.1 qp4.2 (by omega) rfl rfl (Nat.le_of_ble_eq_true rfl) ?_
    refine j_iload_n C dX11_comes_27 rfl ?_
    refine j_icmp_ne C 40 dX11_comes_28 rfl h (fun c6 h => ?_) (fun c6 h => ?_)
    · refine j_iconst C dX11_comes_40 rfl ?_
      refine j_mask [true, true, true, false, true] (ls' := [some (vR _), some (vI _), some (vI _), none, some (vI _)]) rfl ?_
      exact X11_comes_J41_ok C hlv hr5 h
    · refine j_aload_n C dX11_comes_31 rfl ?_
      refine j_iload C dX11_comes_32 rfl ?_
      obtain ⟨p5, ep5, h⟩ := bind_some h
      have qp5 := X11_dawnOf_ct ep5
      refine j_cVI C dX11_comes_34 vl_X11_518 CF11 rfl qp5.1 qp5.2 (by omega) rfl rfl (Nat.le_of_ble_eq_true rfl) ?_
      refine j_goto C 41 dX11_comes_37 rfl ?_
      refine j_mask [true, true, true, false, true] (ls' := [some (vR _), some (vI _), some (vI _), none, some (vI _)]) rfl ?_
      exact X11_comes_J41_ok C hlv hr5 h
set_option maxRecDepth 100000 in
set_option maxHeartbeats 4000000 in
theorem X11_comes_L5_ok {g : Gm} {w : Wd} (C : Cx g w RX11 cX11_comes 5 (some .int)) {lv : Nat} (hlv : 2 < lv) {N : Nat} {m : Mem} {out : Int} (f : Nat) : ∀ {l0 : Nat} {l1 : Int} {l2 : Int} {l3 : Int} {l4 : Int}, X11_comes_L5 N m f l0 l1 l2 l3 l4 = some out → Jd g w 5 (rmL lv 0 0) (Qm g w (some (vI out)) m) 5 [some (vR l0), some (vI l1), some (vI l2), some (vI l3), some (vI l4)] [] 312 m 0 0 := by
  induction f with
  | zero => intro l0 l1 l2 l3 l4 h; exact none_ne (α := Int) h
  | succ f ih => intro l0 l1 l2 l3 l4 h; exact X11_comes_L5_bok C hlv (fun l0 l1 l2 l3 l4 h => ih h) h
set_option maxRecDepth 100000 in
set_option maxHeartbeats 4000000 in
theorem X11_comes_ct {N : Nat} {l0 : Nat} {l1 : Int} {l2 : Int} {m : Mem} {out : Int} (h : X11_comes N l0 l1 l2 m = some out) : shK l0 = 11 + 10 ∧ CT yX11_comes cX11_comes 5 (some .int) 3 0 0 [vR l0, vI l1, vI l2] 312 m (some (vI out)) 312 m := by
  unfold X11_comes at h
  obtain ⟨hK, h⟩ := ite_some h
  have hlv : 2 < 3 := by decide
  refine ⟨hK, CT.of (by decide +kernel) rfl (Nat.le_of_ble_eq_true rfl) (ls := [some (vR l0), some (vI l1), some (vI l2), none, none]) rfl fun g w C _ => ?_⟩
  refine j_iconst C dX11_comes_0 rfl ?_
  refine j_istore_n (ls' := [some (vR _), some (vI _), some (vI _), some (vI _), none]) C dX11_comes_1 (by decide) rfl ?_
  refine j_iconst C dX11_comes_2 rfl ?_
  refine j_istore (ls' := [some (vR _), some (vI _), some (vI _), some (vI _), some (vI _)]) C dX11_comes_3 (by decide) rfl ?_
  exact X11_comes_L5_ok C hlv N h
theorem dX11_compares_0 : decode cX11_compares 0 = .ok (.aload_n 0, 1) := by decide +kernel
theorem dX11_compares_1 : decode cX11_compares 1 = .ok (.iconst 1, 1) := by decide +kernel
theorem dX11_compares_2 : decode cX11_compares 2 = .ok (.invokevirtual 544, 3) := by decide +kernel
theorem dX11_compares_5 : decode cX11_compares 5 = .ok (.ldc_w 585, 3) := by decide +kernel
theorem dX11_compares_8 : decode cX11_compares 8 = .ok (.istore_n 3, 1) := by decide +kernel
theorem dX11_compares_9 : decode cX11_compares 9 = .ok (.iconst 0, 1) := by decide +kernel
theorem dX11_compares_10 : decode cX11_compares 10 = .ok (.istore 4, 2) := by decide +kernel
theorem dX11_compares_12 : decode cX11_compares 12 = .ok (.iconst 0, 1) := by decide +kernel
theorem dX11_compares_13 : decode cX11_compares 13 = .ok (.istore 5, 2) := by decide +kernel
theorem dX11_compares_15 : decode cX11_compares 15 = .ok (.iconst 0, 1) := by decide +kernel
theorem dX11_compares_16 : decode cX11_compares 16 = .ok (.istore 6, 2) := by decide +kernel
theorem dX11_compares_18 : decode cX11_compares 18 = .ok (.iload 6, 2) := by decide +kernel
theorem dX11_compares_20 : decode cX11_compares 20 = .ok (.aload_n 0, 1) := by decide +kernel
theorem dX11_compares_21 : decode cX11_compares 21 = .ok (.getfield 75, 3) := by decide +kernel
theorem dX11_compares_24 : decode cX11_compares 24 = .ok (.aload_n 0, 1) := by decide +kernel
theorem dX11_compares_25 : decode cX11_compares 25 = .ok (.getfield 51, 3) := by decide +kernel
theorem dX11_compares_28 : decode cX11_compares 28 = .ok (.iaload, 1) := by decide +kernel
theorem dX11_compares_29 : decode cX11_compares 29 = .ok (.if_icmp .ge 54, 3) := by decide +kernel
theorem dX11_compares_32 : decode cX11_compares 32 = .ok (.aload_n 0, 1) := by decide +kernel
theorem dX11_compares_33 : decode cX11_compares 33 = .ok (.iconst 1, 1) := by decide +kernel
theorem dX11_compares_34 : decode cX11_compares 34 = .ok (.iload 6, 2) := by decide +kernel
theorem dX11_compares_36 : decode cX11_compares 36 = .ok (.invokevirtual 550, 3) := by decide +kernel
theorem dX11_compares_39 : decode cX11_compares 39 = .ok (.istore 7, 2) := by decide +kernel
theorem dX11_compares_41 : decode cX11_compares 41 = .ok (.iload 7, 2) := by decide +kernel
theorem dX11_compares_43 : decode cX11_compares 43 = .ok (.iload_n 3, 1) := by decide +kernel
theorem dX11_compares_44 : decode cX11_compares 44 = .ok (.if_icmp .ge 8, 3) := by decide +kernel
theorem dX11_compares_47 : decode cX11_compares 47 = .ok (.iload 7, 2) := by decide +kernel
theorem dX11_compares_49 : decode cX11_compares 49 = .ok (.goto 4, 3) := by decide +kernel
theorem dX11_compares_52 : decode cX11_compares 52 = .ok (.iload_n 3, 1) := by decide +kernel
theorem dX11_compares_53 : decode cX11_compares 53 = .ok (.istore_n 3, 1) := by decide +kernel
theorem dX11_compares_54 : decode cX11_compares 54 = .ok (.iload 7, 2) := by decide +kernel
theorem dX11_compares_56 : decode cX11_compares 56 = .ok (.iload 4, 2) := by decide +kernel
theorem dX11_compares_58 : decode cX11_compares 58 = .ok (.if_icmp .le 8, 3) := by decide +kernel
theorem dX11_compares_61 : decode cX11_compares 61 = .ok (.iload 7, 2) := by decide +kernel
theorem dX11_compares_63 : decode cX11_compares 63 = .ok (.goto 5, 3) := by decide +kernel
theorem dX11_compares_66 : decode cX11_compares 66 = .ok (.iload 4, 2) := by decide +kernel
theorem dX11_compares_68 : decode cX11_compares 68 = .ok (.istore 4, 2) := by decide +kernel
theorem dX11_compares_70 : decode cX11_compares 70 = .ok (.iload 5, 2) := by decide +kernel
theorem dX11_compares_72 : decode cX11_compares 72 = .ok (.iload 7, 2) := by decide +kernel
theorem dX11_compares_74 : decode cX11_compares 74 = .ok (.iadd, 1) := by decide +kernel
theorem dX11_compares_75 : decode cX11_compares 75 = .ok (.istore 5, 2) := by decide +kernel
theorem dX11_compares_77 : decode cX11_compares 77 = .ok (.iinc 6 1, 3) := by decide +kernel
theorem dX11_compares_80 : decode cX11_compares 80 = .ok (.goto (-62), 3) := by decide +kernel
theorem dX11_compares_83 : decode cX11_compares 83 = .ok (.iload 4, 2) := by decide +kernel
theorem dX11_compares_85 : decode cX11_compares 85 = .ok (.iload_n 3, 1) := by decide +kernel
theorem dX11_compares_86 : decode cX11_compares 86 = .ok (.isub, 1) := by decide +kernel
theorem dX11_compares_87 : decode cX11_compares 87 = .ok (.istore 6, 2) := by decide +kernel
theorem dX11_compares_89 : decode cX11_compares 89 = .ok (.iload 6, 2) := by decide +kernel
theorem dX11_compares_91 : decode cX11_compares 91 = .ok (.aload_n 0, 1) := by decide +kernel
theorem dX11_compares_92 : decode cX11_compares 92 = .ok (.getfield 221, 3) := by decide +kernel
theorem dX11_compares_95 : decode cX11_compares 95 = .ok (.if_icmp .gt 21, 3) := by decide +kernel
theorem dX11_compares_98 : decode cX11_compares 98 = .ok (.iload 6, 2) := by decide +kernel
theorem dX11_compares_100 : decode cX11_compares 100 = .ok (.aload_n 0, 1) := by decide +kernel
theorem dX11_compares_101 : decode cX11_compares 101 = .ok (.getfield 221, 3) := by decide +kernel
theorem dX11_compares_104 : decode cX11_compares 104 = .ok (.if_icmp .ne 13, 3) := by decide +kernel
theorem dX11_compares_107 : decode cX11_compares 107 = .ok (.iload 5, 2) := by decide +kernel
theorem dX11_compares_109 : decode cX11_compares 109 = .ok (.aload_n 0, 1) := by decide +kernel
theorem dX11_compares_110 : decode cX11_compares 110 = .ok (.getfield 224, 3) := by decide +kernel
theorem dX11_compares_113 : decode cX11_compares 113 = .ok (.if_icmp .gt 4, 3) := by decide +kernel
theorem dX11_compares_116 : decode cX11_compares 116 = .ok (.return_, 1) := by decide +kernel
theorem dX11_compares_117 : decode cX11_compares 117 = .ok (.aload_n 0, 1) := by decide +kernel
theorem dX11_compares_118 : decode cX11_compares 118 = .ok (.iload 6, 2) := by decide +kernel
theorem dX11_compares_120 : decode cX11_compares 120 = .ok (.putfield 221, 3) := by decide +kernel
theorem dX11_compares_123 : decode cX11_compares 123 = .ok (.aload_n 0, 1) := by decide +kernel
theorem dX11_compares_124 : decode cX11_compares 124 = .ok (.iload 5, 2) := by decide +kernel
theorem dX11_compares_126 : decode cX11_compares 126 = .ok (.putfield 224, 3) := by decide +kernel
theorem dX11_compares_129 : decode cX11_compares 129 = .ok (.aload_n 0, 1) := by decide +kernel
theorem dX11_compares_130 : decode cX11_compares 130 = .ok (.getfield 227, 3) := by decide +kernel
theorem dX11_compares_133 : decode cX11_compares 133 = .ok (.iconst 0, 1) := by decide +kernel
theorem dX11_compares_134 : decode cX11_compares 134 = .ok (.iload_n 1, 1) := by decide +kernel
theorem dX11_compares_135 : decode cX11_compares 135 = .ok (.iastore, 1) := by decide +kernel
theorem dX11_compares_136 : decode cX11_compares 136 = .ok (.aload_n 0, 1) := by decide +kernel
theorem dX11_compares_137 : decode cX11_compares 137 = .ok (.getfield 227, 3) := by decide +kernel
theorem dX11_compares_140 : decode cX11_compares 140 = .ok (.iconst 1, 1) := by decide +kernel
theorem dX11_compares_141 : decode cX11_compares 141 = .ok (.iload_n 2, 1) := by decide +kernel
theorem dX11_compares_142 : decode cX11_compares 142 = .ok (.iastore, 1) := by decide +kernel
theorem dX11_compares_143 : decode cX11_compares 143 = .ok (.return_, 1) := by decide +kernel
set_option maxRecDepth 100000 in
set_option maxHeartbeats 4000000 in
theorem X11_compares_J68_ok {g : Gm} {w : Wd} (C : Cx g w RX11 cX11_compares 8 none) {lv : Nat} (hlv : 8 < lv) {N : Nat} {r18 : Nat → Int → Int → Int → Int → Int → Int → Mem → Option Mem } {l0 : Nat} {l1 : Int} {l2 : Int} {l3 : Int} {l5 : Int} {l6 : Int} {l7 : Int} {s0 : Int} {m : Mem} {out : Mem} (hr18 : ∀ l0 l1 l2 l3 l4 l5 l6 m, r18 l0 l1 l2 l3 l4 l5 l6 m = some out → Jd g w 8 (rmL lv 0 0) (Qm g w none out) 18 [some (vR l0), some (vI l1), some (vI l2), some (vI l3), some (vI l4), some (vI l5), some (vI l6), none] [] 312 m 0 0) (h : X11_compares_J68 N r18 l0 l1 l2 l3 l5 l6 l7 s0 m = some out) : Jd g w 8 (rmL lv 0 0) (Qm g w none out) 68 [some (vR l0), some (vI l1), some (vI l2), some (vI l3), none, some (vI l5), some (vI l6), some (vI l7)] [vI s0] 312 m 0 0 := by
  unfold X11_compares_J68 at h
  refine j_istore (ls' := [some (vR _), some (vI _), some (vI _), some (vI _), some (vI _), some (vI _), some (vI _), some (vI _)]) C dX11_compares_68 (by decide) rfl ?_
  refine j_iload C dX11_compares_70 rfl ?_
  refine j_iload C dX11_compares_72 rfl ?_
  refine j_iadd C dX11_compares_74 ?_
  refine j_istore (ls' := [some (vR _), some (vI _), some (vI _), some (vI _), some (vI _), some (vI _), some (vI _), some (vI _)]) C dX11_compares_75 (by decide) rfl ?_
  refine j_iinc (ls' := [some (vR _), some (vI _), some (vI _), some (vI _), some (vI _), some (vI _), some (vI _), some (vI _)]) C dX11_compares_77 rfl (by decide) rfl ?_
  refine j_goto C 18 dX11_compares_80 rfl ?_
  refine j_mask [true, true, true, true, true, true, true, false] (ls' := [some (vR _), some (vI _), some (vI _), some (vI _), some (vI _), some (vI _), some (vI _), none]) rfl ?_
  exact hr18 _ _ _ _ _ _ _ _ h
set_option maxRecDepth 100000 in
set_option maxHeartbeats 4000000 in
theorem X11_compares_J53_ok {g : Gm} {w : Wd} (C : Cx g w RX11 cX11_compares 8 none) {lv : Nat} (hlv : 8 < lv) {N : Nat} {r18 : Nat → Int → Int → Int → Int → Int → Int → Mem → Option Mem } {l0 : Nat} {l1 : Int} {l2 : Int} {l4 : Int} {l5 : Int} {l6 : Int} {l7 : Int} {s0 : Int} {m : Mem} {out : Mem} (hr18 : ∀ l0 l1 l2 l3 l4 l5 l6 m, r18 l0 l1 l2 l3 l4 l5 l6 m = some out → Jd g w 8 (rmL lv 0 0) (Qm g w none out) 18 [some (vR l0), some (vI l1), some (vI l2), some (vI l3), some (vI l4), some (vI l5), some (vI l6), none] [] 312 m 0 0) (h : X11_compares_J53 N r18 l0 l1 l2 l4 l5 l6 l7 s0 m = some out) : Jd g w 8 (rmL lv 0 0) (Qm g w none out) 53 [some (vR l0), some (vI l1), some (vI l2), none, some (vI l4), some (vI l5), some (vI l6), some (vI l7)] [vI s0] 312 m 0 0 := by
  unfold X11_compares_J53 at h
  refine j_istore_n (ls' := [some (vR _), some (vI _), some (vI _), some (vI _), some (vI _), some (vI _), some (vI _), some (vI _)]) C dX11_compares_53 (by decide) rfl ?_
  refine j_iload C dX11_compares_54 rfl ?_
  refine j_iload C dX11_compares_56 rfl ?_
  refine j_icmp_le C 66 dX11_compares_58 rfl h (fun c6 h => ?_) (fun c6 h => ?_)
  · refine j_iload C dX11_compares_66 rfl ?_
    refine j_mask [true, true, true, true, false, true, true, true] (ls' := [some (vR _), some (vI _), some (vI _), some (vI _), none, some (vI _), some (vI _), some (vI _)]) rfl ?_
    exact X11_compares_J68_ok C hlv hr18 h
  · refine j_iload C dX11_compares_61 rfl ?_
    refine j_goto C 68 dX11_compares_63 rfl ?_
    refine j_mask [true, true, true, true, false, true, true, true] (ls' := [some (vR _), some (vI _), some (vI _), some (vI _), none, some (vI _), some (vI _), some (vI _)]) rfl ?_
    exact X11_compares_J68_ok C hlv hr18 h
set_option maxRecDepth 100000 in
set_option maxHeartbeats 4000000 in
theorem X11_compares_L18_bok {g : Gm} {w : Wd} (C : Cx g w RX11 cX11_compares 8 none) {lv : Nat} (hlv : 8 < lv) {N : Nat} {k83 : Nat → Int → Int → Int → Int → Int → Mem → Option Mem} {r18 : Nat → Int → Int → Int → Int → Int → Int → Mem → Option Mem} {l0 : Nat} {l1 : Int} {l2 : Int} {l3 : Int} {l4 : Int} {l5 : Int} {l6 : Int} {m : Mem} {out : Mem} (hk83 : ∀ l0 l1 l2 l3 l4 l5 m, k83 l0 l1 l2 l3 l4 l5 m = some out → Jd g w 8 (rmL lv 0 0) (Qm g w none out) 83 [some (vR l0), some (vI l1), some (vI l2), some (vI l3), some (vI l4), some (vI l5), none, none] [] 312 m 0 0) (hr18 : ∀ l0 l1 l2 l3 l4 l5 l6 m, r18 l0 l1 l2 l3 l4 l5 l6 m = some out → Jd g w 8 (rmL lv 0 0) (Qm g w none out) 18 [some (vR l0), some (vI l1), some (vI l2), some (vI l3), some (vI l4), some (vI l5), some (vI l6), none] [] 312 m 0 0) (h : X11_compares_L18_b N k83 r18 l0 l1 l2 l3 l4 l5 l6 m = some out) : Jd g w 8 (rmL lv 0 0) (Qm g w none out) 18 [some (vR l0), some (vI l1), some (vI l2), some (vI l3), some (vI l4), some (vI l5), some (vI l6), none] [] 312 m 0 0 := by
  unfold X11_compares_L18_b at h
  refine j_iload C dX11_compares_18 rfl ?_
  refine j_aload_n C dX11_compares_20 rfl ?_
  refine j_getR C dX11_compares_21 CF11 (by decide) fl_X11_75 rfl rfl h (fun t2 h => ?_)
  refine j_aload_n C dX11_compares_24 rfl ?_
  refine j_getI C dX11_compares_25 CF11 (by decide) fl_X11_51 rfl rfl h (fun t3 h => ?_)
  refine j_iald C dX11_compares_28 rfl h (fun t4 h => ?_)
  refine j_icmp_ge C 83 dX11_compares_29 rfl h (fun c8 h => ?_) (fun c8 h => ?_)
  · refine j_mask [true, true, true, true, true, true, false, false] (ls' := [some (vR _), some (vI _), some (vI _), some (vI _), some (vI _), some (vI _), none, none]) rfl ?_
    exact hk83 _ _ _ _ _ _ _ h
  · refine j_aload_n C dX11_compares_32 rfl ?_
    refine j_iconst C dX11_compares_33 rfl ?_
    refine j_iload C dX11_compares_34 rfl ?_
    obtain ⟨p5, ep5, h⟩ := bind_some h
    have qp5 := X11_comes_ct ep5
    refine j_cVI C dX11_compares_36 vl_X11_550 CF11 rfl qp5.1 qp5.2 (by omega) rfl rfl (Nat.le_of_ble_eq_true rfl) ?_
    refine j_istore (ls' := [some (vR _), some (vI _), some (vI _), some (vI _), some (vI _), some (vI _), some (vI _), some (vI _)]) C dX11_compares_39 (by decide) rfl ?_
    refine j_iload C dX11_compares_41 rfl ?_
    refine j_iload_n C dX11_compares_43 rfl ?_
    refine j_icmp_ge C 52 dX11_compares_44 rfl h (fun c7 h => ?_) (fun c7 h => ?_)
    · refine j_iload_n C dX11_compares_52 rfl ?_
      refine j_mask [true, true, true, false, true, true, true, true] (ls' := [some (vR _), some (vI _), some (vI _), none, some (vI _), some (vI _), some (vI _), some (vI _)]) rfl ?_
      exact X11_compares_J53_ok C hlv hr18 h
    · refine j_iload C dX11_compares_47 rfl ?_
      refine j_goto C 53 dX11_compares_49 rfl ?_
      refine j_mask [true, true, true, false, true, true, true, true] (ls' := [some (vR _), some (vI _), some (vI _), none, some (vI _), some (vI _), some (vI _), some (vI _)]) rfl ?_
      exact X11_compares_J53_ok C hlv hr18 h
set_option maxRecDepth 100000 in
set_option maxHeartbeats 4000000 in
theorem X11_compares_L18_ok {g : Gm} {w : Wd} (C : Cx g w RX11 cX11_compares 8 none) {lv : Nat} (hlv : 8 < lv) {N : Nat} {k83 : Nat → Int → Int → Int → Int → Int → Mem → Option Mem} {out : Mem} (hk83 : ∀ l0 l1 l2 l3 l4 l5 m, k83 l0 l1 l2 l3 l4 l5 m = some out → Jd g w 8 (rmL lv 0 0) (Qm g w none out) 83 [some (vR l0), some (vI l1), some (vI l2), some (vI l3), some (vI l4), some (vI l5), none, none] [] 312 m 0 0) (f : Nat) : ∀ {l0 : Nat} {l1 : Int} {l2 : Int} {l3 : Int} {l4 : Int} {l5 : Int} {l6 : Int} {m : Mem}, X11_compares_L18 N k83 f l0 l1 l2 l3 l4 l5 l6 m = some out → Jd g w 8 (rmL lv 0 0) (Qm g w none out) 18 [some (vR l0), some (vI l1), some (vI l2), some (vI l3), some (vI l4), some (vI l5), some (vI l6), none] [] 312 m 0 0 := by
  induction f with
  | zero => intro l0 l1 l2 l3 l4 l5 l6 m h; exact none_ne (α := Mem) h
  | succ f ih => intro l0 l1 l2 l3 l4 l5 l6 m h; exact X11_compares_L18_bok C hlv hk83 (fun l0 l1 l2 l3 l4 l5 l6 m h => ih h) h
set_option maxRecDepth 100000 in
set_option maxHeartbeats 4000000 in
theorem X11_compares_J117_ok {g : Gm} {w : Wd} (C : Cx g w RX11 cX11_compares 8 none) {lv : Nat} (hlv : 8 < lv) {N : Nat} {l0 : Nat} {l1 : Int} {l2 : Int} {l5 : Int} {l6 : Int} {m : Mem} {out : Mem} (h : X11_compares_J117 N l0 l1 l2 l5 l6 m = some out) : Jd g w 8 (rmL lv 0 0) (Qm g w none out) 117 [some (vR l0), some (vI l1), some (vI l2), none, none, some (vI l5), some (vI l6), none] [] 312 m 0 0 := by
  unfold X11_compares_J117 at h
  refine j_aload_n C dX11_compares_117 rfl ?_
  refine j_iload C dX11_compares_118 rfl ?_
  refine j_putI C dX11_compares_120 CF11 (by decide) fl_X11_221 rfl rfl rfl rfl h (fun m18 h => ?_)
  refine j_aload_n C dX11_compares_123 rfl ?_
  refine j_iload C dX11_compares_124 rfl ?_
  refine j_putI C dX11_compares_126 CF11 (by decide) fl_X11_224 rfl rfl rfl rfl h (fun m19 h => ?_)
  refine j_aload_n C dX11_compares_129 rfl ?_
  refine j_getR C dX11_compares_130 CF11 (by decide) fl_X11_227 rfl rfl h (fun t20 h => ?_)
  refine j_iconst C dX11_compares_133 rfl ?_
  refine j_iload_n C dX11_compares_134 rfl ?_
  refine j_iast C dX11_compares_135 rfl h (fun m21 h => ?_)
  refine j_aload_n C dX11_compares_136 rfl ?_
  refine j_getR C dX11_compares_137 CF11 (by decide) fl_X11_227 rfl rfl h (fun t22 h => ?_)
  refine j_iconst C dX11_compares_140 rfl ?_
  refine j_iload_n C dX11_compares_141 rfl ?_
  refine j_iast C dX11_compares_142 rfl h (fun m23 h => ?_)
  have e := Option.some.inj h
  subst e
  exact j_rv C dX11_compares_143 rfl rfl
set_option maxRecDepth 100000 in
set_option maxHeartbeats 4000000 in
theorem X11_compares_ct {N : Nat} {l0 : Nat} {l1 : Int} {l2 : Int} {m : Mem} {out : Mem} (h : X11_compares N l0 l1 l2 m = some out) : shK l0 = 11 + 10 ∧ CT yX11_compares cX11_compares 8 none 9 0 0 [vR l0, vI l1, vI l2] 312 m none 312 out := by
  unfold X11_compares at h
  obtain ⟨hK, h⟩ := ite_some h
  have hlv : 8 < 9 := by decide
  refine ⟨hK, CT.of (by decide +kernel) rfl (Nat.le_of_ble_eq_true rfl) (ls := [some (vR l0), some (vI l1), some (vI l2), none, none, none, none, none]) rfl fun g w C _ => ?_⟩
  refine j_aload_n C dX11_compares_0 rfl ?_
  refine j_iconst C dX11_compares_1 rfl ?_
  obtain ⟨p1, ep1, h⟩ := bind_some h
  have qp1 := X11_nightAsTold_ct ep1
  refine j_cVV C dX11_compares_2 vl_X11_544 CF11 rfl qp1.1 qp1.2 (by omega) rfl rfl (Nat.le_of_ble_eq_true rfl) ?_
  refine j_ldcw (v := 1000000) C dX11_compares_5 k_X11_585 rfl rfl ?_
  refine j_istore_n (ls' := [some (vR _), some (vI _), some (vI _), some (vI _), none, none, none, none]) C dX11_compares_8 (by decide) rfl ?_
  refine j_iconst C dX11_compares_9 rfl ?_
  refine j_istore (ls' := [some (vR _), some (vI _), some (vI _), some (vI _), some (vI _), none, none, none]) C dX11_compares_10 (by decide) rfl ?_
  refine j_iconst C dX11_compares_12 rfl ?_
  refine j_istore (ls' := [some (vR _), some (vI _), some (vI _), some (vI _), some (vI _), some (vI _), none, none]) C dX11_compares_13 (by decide) rfl ?_
  refine j_iconst C dX11_compares_15 rfl ?_
  refine j_istore (ls' := [some (vR _), some (vI _), some (vI _), some (vI _), some (vI _), some (vI _), some (vI _), none]) C dX11_compares_16 (by decide) rfl ?_
  refine X11_compares_L18_ok C hlv (fun z9 z10 z11 z12 z13 z14 m15 h => ?_) N h
  refine j_iload C dX11_compares_83 rfl ?_
  refine j_iload_n C dX11_compares_85 rfl ?_
  refine j_isub C dX11_compares_86 ?_
  refine j_istore (ls' := [some (vR _), some (vI _), some (vI _), some (vI _), some (vI _), some (vI _), some (vI _), none]) C dX11_compares_87 (by decide) rfl ?_
  refine j_iload C dX11_compares_89 rfl ?_
  refine j_aload_n C dX11_compares_91 rfl ?_
  refine j_getI C dX11_compares_92 CF11 (by decide) fl_X11_221 rfl rfl h (fun t16 h => ?_)
  refine j_icmp_gt C 116 dX11_compares_95 rfl h (fun c27 h => ?_) (fun c27 h => ?_)
  · have e := Option.some.inj h
    subst e
    exact j_rv C dX11_compares_116 rfl rfl
  · refine j_iload C dX11_compares_98 rfl ?_
    refine j_aload_n C dX11_compares_100 rfl ?_
    refine j_getI C dX11_compares_101 CF11 (by decide) fl_X11_221 rfl rfl h (fun t17 h => ?_)
    refine j_icmp_ne C 117 dX11_compares_104 rfl h (fun c26 h => ?_) (fun c26 h => ?_)
    · refine j_mask [true, true, true, false, false, true, true, false] (ls' := [some (vR _), some (vI _), some (vI _), none, none, some (vI _), some (vI _), none]) rfl ?_
      exact X11_compares_J117_ok C hlv h
    · refine j_iload C dX11_compares_107 rfl ?_
      refine j_aload_n C dX11_compares_109 rfl ?_
      refine j_getI C dX11_compares_110 CF11 (by decide) fl_X11_224 rfl rfl h (fun t24 h => ?_)
      refine j_icmp_gt C 117 dX11_compares_113 rfl h (fun c25 h => ?_) (fun c25 h => ?_)
      · refine j_mask [true, true, true, false, false, true, true, false] (ls' := [some (vR _), some (vI _), some (vI _), none, none, some (vI _), some (vI _), none]) rfl ?_
        exact X11_compares_J117_ok C hlv h
      · have e := Option.some.inj h
        subst e
        exact j_rv C dX11_compares_116 rfl rfl
theorem dX11_alike_0 : decode cX11_alike 0 = .ok (.iload_n 1, 1) := by decide +kernel
theorem dX11_alike_1 : decode cX11_alike 1 = .ok (.iconst 1, 1) := by decide +kernel
theorem dX11_alike_2 : decode cX11_alike 2 = .ok (.iconst 2, 1) := by decide +kernel
theorem dX11_alike_3 : decode cX11_alike 3 = .ok (.invokestatic 334, 3) := by decide +kernel
theorem dX11_alike_6 : decode cX11_alike 6 = .ok (.ifCond .eq 45, 3) := by decide +kernel
theorem dX11_alike_9 : decode cX11_alike 9 = .ok (.aload_n 0, 1) := by decide +kernel
theorem dX11_alike_10 : decode cX11_alike 10 = .ok (.getfield 75, 3) := by decide +kernel
theorem dX11_alike_13 : decode cX11_alike 13 = .ok (.aload_n 0, 1) := by decide +kernel
theorem dX11_alike_14 : decode cX11_alike 14 = .ok (.getfield 51, 3) := by decide +kernel
theorem dX11_alike_17 : decode cX11_alike 17 = .ok (.iaload, 1) := by decide +kernel
theorem dX11_alike_18 : decode cX11_alike 18 = .ok (.ifCond .eq 33, 3) := by decide +kernel
theorem dX11_alike_21 : decode cX11_alike 21 = .ok (.aload_n 0, 1) := by decide +kernel
theorem dX11_alike_22 : decode cX11_alike 22 = .ok (.invokevirtual 524, 3) := by decide +kernel
theorem dX11_alike_25 : decode cX11_alike 25 = .ok (.iload_n 1, 1) := by decide +kernel
theorem dX11_alike_26 : decode cX11_alike 26 = .ok (.if_icmp .lt 25, 3) := by decide +kernel
theorem dX11_alike_29 : decode cX11_alike 29 = .ok (.iload_n 2, 1) := by decide +kernel
theorem dX11_alike_30 : decode cX11_alike 30 = .ok (.iconst (-1), 1) := by decide +kernel
theorem dX11_alike_31 : decode cX11_alike 31 = .ok (.if_icmp .eq 22, 3) := by decide +kernel
theorem dX11_alike_34 : decode cX11_alike 34 = .ok (.iload_n 2, 1) := by decide +kernel
theorem dX11_alike_35 : decode cX11_alike 35 = .ok (.bipush 20, 2) := by decide +kernel
theorem dX11_alike_37 : decode cX11_alike 37 = .ok (.if_icmp .eq 16, 3) := by decide +kernel
theorem dX11_alike_40 : decode cX11_alike 40 = .ok (.iload_n 2, 1) := by decide +kernel
theorem dX11_alike_41 : decode cX11_alike 41 = .ok (.iconst 0, 1) := by decide +kernel
theorem dX11_alike_42 : decode cX11_alike 42 = .ok (.iload_n 1, 1) := by decide +kernel
theorem dX11_alike_43 : decode cX11_alike 43 = .ok (.iconst 1, 1) := by decide +kernel
theorem dX11_alike_44 : decode cX11_alike 44 = .ok (.isub, 1) := by decide +kernel
theorem dX11_alike_45 : decode cX11_alike 45 = .ok (.invokestatic 334, 3) := by decide +kernel
theorem dX11_alike_48 : decode cX11_alike 48 = .ok (.ifCond .ne 5, 3) := by decide +kernel
theorem dX11_alike_51 : decode cX11_alike 51 = .ok (.iconst (-1), 1) := by decide +kernel
theorem dX11_alike_52 : decode cX11_alike 52 = .ok (.ireturn, 1) := by decide +kernel
theorem dX11_alike_53 : decode cX11_alike 53 = .ok (.aload_n 0, 1) := by decide +kernel
theorem dX11_alike_54 : decode cX11_alike 54 = .ok (.iconst 0, 1) := by decide +kernel
theorem dX11_alike_55 : decode cX11_alike 55 = .ok (.invokevirtual 527, 3) := by decide +kernel
theorem dX11_alike_58 : decode cX11_alike 58 = .ok (.istore_n 3, 1) := by decide +kernel
theorem dX11_alike_59 : decode cX11_alike 59 = .ok (.aload_n 0, 1) := by decide +kernel
theorem dX11_alike_60 : decode cX11_alike 60 = .ok (.iload_n 1, 1) := by decide +kernel
theorem dX11_alike_61 : decode cX11_alike 61 = .ok (.iconst 1, 1) := by decide +kernel
theorem dX11_alike_62 : decode cX11_alike 62 = .ok (.isub, 1) := by decide +kernel
theorem dX11_alike_63 : decode cX11_alike 63 = .ok (.invokevirtual 527, 3) := by decide +kernel
theorem dX11_alike_66 : decode cX11_alike 66 = .ok (.istore 4, 2) := by decide +kernel
theorem dX11_alike_68 : decode cX11_alike 68 = .ok (.aload_n 0, 1) := by decide +kernel
theorem dX11_alike_69 : decode cX11_alike 69 = .ok (.iconst 1, 1) := by decide +kernel
theorem dX11_alike_70 : decode cX11_alike 70 = .ok (.iconst 0, 1) := by decide +kernel
theorem dX11_alike_71 : decode cX11_alike 71 = .ok (.invokevirtual 448, 3) := by decide +kernel
theorem dX11_alike_74 : decode cX11_alike 74 = .ok (.aload_n 0, 1) := by decide +kernel
theorem dX11_alike_75 : decode cX11_alike 75 = .ok (.ldc_w 585, 3) := by decide +kernel
theorem dX11_alike_78 : decode cX11_alike 78 = .ok (.putfield 221, 3) := by decide +kernel
theorem dX11_alike_81 : decode cX11_alike 81 = .ok (.aload_n 0, 1) := by decide +kernel
theorem dX11_alike_82 : decode cX11_alike 82 = .ok (.iconst (-1), 1) := by decide +kernel
theorem dX11_alike_83 : decode cX11_alike 83 = .ok (.putfield 224, 3) := by decide +kernel
theorem dX11_alike_86 : decode cX11_alike 86 = .ok (.iconst 0, 1) := by decide +kernel
theorem dX11_alike_87 : decode cX11_alike 87 = .ok (.istore 5, 2) := by decide +kernel
theorem dX11_alike_89 : decode cX11_alike 89 = .ok (.iload 5, 2) := by decide +kernel
theorem dX11_alike_91 : decode cX11_alike 91 = .ok (.aload_n 0, 1) := by decide +kernel
theorem dX11_alike_92 : decode cX11_alike 92 = .ok (.invokevirtual 438, 3) := by decide +kernel
theorem dX11_alike_95 : decode cX11_alike 95 = .ok (.if_icmp .ge 111, 3) := by decide +kernel
theorem dX11_alike_98 : decode cX11_alike 98 = .ok (.aload_n 0, 1) := by decide +kernel
theorem dX11_alike_99 : decode cX11_alike 99 = .ok (.iload_n 3, 1) := by decide +kernel
theorem dX11_alike_100 : decode cX11_alike 100 = .ok (.iload 5, 2) := by decide +kernel
theorem dX11_alike_102 : decode cX11_alike 102 = .ok (.invokevirtual 586, 3) := by decide +kernel
theorem dX11_alike_105 : decode cX11_alike 105 = .ok (.ifCond .ne 6, 3) := by decide +kernel
theorem dX11_alike_108 : decode cX11_alike 108 = .ok (.goto 92, 3) := by decide +kernel
theorem dX11_alike_111 : decode cX11_alike 111 = .ok (.aload_n 0, 1) := by decide +kernel
theorem dX11_alike_112 : decode cX11_alike 112 = .ok (.getfield 170, 3) := by decide +kernel
theorem dX11_alike_115 : decode cX11_alike 115 = .ok (.bipush 10, 2) := by decide +kernel
theorem dX11_alike_117 : decode cX11_alike 117 = .ok (.iload_n 3, 1) := by decide +kernel
theorem dX11_alike_118 : decode cX11_alike 118 = .ok (.iadd, 1) := by decide +kernel
theorem dX11_alike_119 : decode cX11_alike 119 = .ok (.iload 5, 2) := by decide +kernel
theorem dX11_alike_121 : decode cX11_alike 121 = .ok (.iastore, 1) := by decide +kernel
theorem dX11_alike_122 : decode cX11_alike 122 = .ok (.iconst 0, 1) := by decide +kernel
theorem dX11_alike_123 : decode cX11_alike 123 = .ok (.istore 6, 2) := by decide +kernel
theorem dX11_alike_125 : decode cX11_alike 125 = .ok (.iload 6, 2) := by decide +kernel
theorem dX11_alike_127 : decode cX11_alike 127 = .ok (.iload_n 1, 1) := by decide +kernel
theorem dX11_alike_128 : decode cX11_alike 128 = .ok (.iconst 1, 1) := by decide +kernel
theorem dX11_alike_129 : decode cX11_alike 129 = .ok (.if_icmp .ne 7, 3) := by decide +kernel
theorem dX11_alike_132 : decode cX11_alike 132 = .ok (.iconst 1, 1) := by decide +kernel
theorem dX11_alike_133 : decode cX11_alike 133 = .ok (.goto 7, 3) := by decide +kernel
theorem dX11_alike_136 : decode cX11_alike 136 = .ok (.aload_n 0, 1) := by decide +kernel
theorem dX11_alike_137 : decode cX11_alike 137 = .ok (.invokevirtual 438, 3) := by decide +kernel
theorem dX11_alike_140 : decode cX11_alike 140 = .ok (.if_icmp .ge 60, 3) := by decide +kernel
theorem dX11_alike_143 : decode cX11_alike 143 = .ok (.iload_n 1, 1) := by decide +kernel
theorem dX11_alike_144 : decode cX11_alike 144 = .ok (.iconst 2, 1) := by decide +kernel
theorem dX11_alike_145 : decode cX11_alike 145 = .ok (.if_icmp .ne 24, 3) := by decide +kernel
theorem dX11_alike_148 : decode cX11_alike 148 = .ok (.iload 6, 2) := by decide +kernel
theorem dX11_alike_150 : decode cX11_alike 150 = .ok (.iload 5, 2) := by decide +kernel
theorem dX11_alike_152 : decode cX11_alike 152 = .ok (.if_icmp .eq 42, 3) := by decide +kernel
theorem dX11_alike_155 : decode cX11_alike 155 = .ok (.aload_n 0, 1) := by decide +kernel
theorem dX11_alike_156 : decode cX11_alike 156 = .ok (.iload 4, 2) := by decide +kernel
theorem dX11_alike_158 : decode cX11_alike 158 = .ok (.iload 6, 2) := by decide +kernel
theorem dX11_alike_160 : decode cX11_alike 160 = .ok (.invokevirtual 586, 3) := by decide +kernel
theorem dX11_alike_163 : decode cX11_alike 163 = .ok (.ifCond .ne 6, 3) := by decide +kernel
theorem dX11_alike_166 : decode cX11_alike 166 = .ok (.goto 28, 3) := by decide +kernel
theorem dX11_alike_169 : decode cX11_alike 169 = .ok (.iload_n 1, 1) := by decide +kernel
theorem dX11_alike_170 : decode cX11_alike 170 = .ok (.iconst 2, 1) := by decide +kernel
theorem dX11_alike_171 : decode cX11_alike 171 = .ok (.if_icmp .ne 15, 3) := by decide +kernel
theorem dX11_alike_174 : decode cX11_alike 174 = .ok (.aload_n 0, 1) := by decide +kernel
theorem dX11_alike_175 : decode cX11_alike 175 = .ok (.getfield 170, 3) := by decide +kernel
theorem dX11_alike_178 : decode cX11_alike 178 = .ok (.bipush 10, 2) := by decide +kernel
theorem dX11_alike_180 : decode cX11_alike 180 = .ok (.iload 4, 2) := by decide +kernel
theorem dX11_alike_182 : decode cX11_alike 182 = .ok (.iadd, 1) := by decide +kernel
theorem dX11_alike_183 : decode cX11_alike 183 = .ok (.iload 6, 2) := by decide +kernel
theorem dX11_alike_185 : decode cX11_alike 185 = .ok (.iastore, 1) := by decide +kernel
theorem dX11_alike_186 : decode cX11_alike 186 = .ok (.aload_n 0, 1) := by decide +kernel
theorem dX11_alike_187 : decode cX11_alike 187 = .ok (.iload 5, 2) := by decide +kernel
theorem dX11_alike_189 : decode cX11_alike 189 = .ok (.iload 6, 2) := by decide +kernel
theorem dX11_alike_191 : decode cX11_alike 191 = .ok (.invokevirtual 589, 3) := by decide +kernel
theorem dX11_alike_194 : decode cX11_alike 194 = .ok (.iinc 6 1, 3) := by decide +kernel
theorem dX11_alike_197 : decode cX11_alike 197 = .ok (.goto (-72), 3) := by decide +kernel
theorem dX11_alike_200 : decode cX11_alike 200 = .ok (.iinc 5 1, 3) := by decide +kernel
theorem dX11_alike_203 : decode cX11_alike 203 = .ok (.goto (-114), 3) := by decide +kernel
theorem dX11_alike_206 : decode cX11_alike 206 = .ok (.iload_n 2, 1) := by decide +kernel
theorem dX11_alike_207 : decode cX11_alike 207 = .ok (.iconst (-1), 1) := by decide +kernel
theorem dX11_alike_208 : decode cX11_alike 208 = .ok (.if_icmp .ne 10, 3) := by decide +kernel
theorem dX11_alike_211 : decode cX11_alike 211 = .ok (.aload_n 0, 1) := by decide +kernel
theorem dX11_alike_212 : decode cX11_alike 212 = .ok (.getfield 221, 3) := by decide +kernel
theorem dX11_alike_215 : decode cX11_alike 215 = .ok (.goto 22, 3) := by decide +kernel
theorem dX11_alike_218 : decode cX11_alike 218 = .ok (.iload_n 2, 1) := by decide +kernel
theorem dX11_alike_219 : decode cX11_alike 219 = .ok (.bipush 20, 2) := by decide +kernel
theorem dX11_alike_221 : decode cX11_alike 221 = .ok (.if_icmp .ne 10, 3) := by decide +kernel
theorem dX11_alike_224 : decode cX11_alike 224 = .ok (.aload_n 0, 1) := by decide +kernel
theorem dX11_alike_225 : decode cX11_alike 225 = .ok (.getfield 224, 3) := by decide +kernel
theorem dX11_alike_228 : decode cX11_alike 228 = .ok (.goto 9, 3) := by decide +kernel
theorem dX11_alike_231 : decode cX11_alike 231 = .ok (.aload_n 0, 1) := by decide +kernel
theorem dX11_alike_232 : decode cX11_alike 232 = .ok (.getfield 227, 3) := by decide +kernel
theorem dX11_alike_235 : decode cX11_alike 235 = .ok (.iload_n 2, 1) := by decide +kernel
theorem dX11_alike_236 : decode cX11_alike 236 = .ok (.iaload, 1) := by decide +kernel
theorem dX11_alike_237 : decode cX11_alike 237 = .ok (.ireturn, 1) := by decide +kernel
set_option maxRecDepth 100000 in
set_option maxHeartbeats 4000000 in
theorem X11_alike_J194_ok {g : Gm} {w : Wd} (C : Cx g w RX11 cX11_alike 7 (some .int)) {lv : Nat} (hlv : 9 < lv) {N : Nat} {r125 : Nat → Int → Int → Int → Int → Int → Int → Mem → Option (Int × Mem) } {l0 : Nat} {l1 : Int} {l2 : Int} {l3 : Int} {l4 : Int} {l5 : Int} {l6 : Int} {m : Mem} {out : (Int × Mem)} (hr125 : ∀ l0 l1 l2 l3 l4 l5 l6 m, r125 l0 l1 l2 l3 l4 l5 l6 m = some out → Jd g w 7 (rmL lv 0 0) (Qm g w (some (vI out.1)) out.2) 125 [some (vR l0), some (vI l1), some (vI l2), some (vI l3), some (vI l4), some (vI l5), some (vI l6)] [] 312 m 0 0) (h : X11_alike_J194 N r125 l0 l1 l2 l3 l4 l5 l6 m = some out) : Jd g w 7 (rmL lv 0 0) (Qm g w (some (vI out.1)) out.2) 194 [some (vR l0), some (vI l1), some (vI l2), some (vI l3), some (vI l4), some (vI l5), some (vI l6)] [] 312 m 0 0 := by
  unfold X11_alike_J194 at h
  refine j_iinc (ls' := [some (vR _), some (vI _), some (vI _), some (vI _), some (vI _), some (vI _), some (vI _)]) C dX11_alike_194 rfl (by decide) rfl ?_
  refine j_goto C 125 dX11_alike_197 rfl ?_
  exact hr125 _ _ _ _ _ _ _ _ h
set_option maxRecDepth 100000 in
set_option maxHeartbeats 4000000 in
theorem X11_alike_J186_ok {g : Gm} {w : Wd} (C : Cx g w RX11 cX11_alike 7 (some .int)) {lv : Nat} (hlv : 9 < lv) {N : Nat} {r125 : Nat → Int → Int → Int → Int → Int → Int → Mem → Option (Int × Mem) } {l0 : Nat} {l1 : Int} {l2 : Int} {l3 : Int} {l4 : Int} {l5 : Int} {l6 : Int} {m : Mem} {out : (Int × Mem)} (hr125 : ∀ l0 l1 l2 l3 l4 l5 l6 m, r125 l0 l1 l2 l3 l4 l5 l6 m = some out → Jd g w 7 (rmL lv 0 0) (Qm g w (some (vI out.1)) out.2) 125 [some (vR l0), some (vI l1), some (vI l2), some (vI l3), some (vI l4), some (vI l5), some (vI l6)] [] 312 m 0 0) (h : X11_alike_J186 N r125 l0 l1 l2 l3 l4 l5 l6 m = some out) : Jd g w 7 (rmL lv 0 0) (Qm g w (some (vI out.1)) out.2) 186 [some (vR l0), some (vI l1), some (vI l2), some (vI l3), some (vI l4), some (vI l5), some (vI l6)] [] 312 m 0 0 := by
  unfold X11_alike_J186 at h
  refine j_aload_n C dX11_alike_186 rfl ?_
  refine j_iload C dX11_alike_187 rfl ?_
  refine j_iload C dX11_alike_189 rfl ?_
  obtain ⟨p16, ep16, h⟩ := bind_some h
  have qp16 := X11_compares_ct ep16
  refine j_cVV C dX11_alike_191 vl_X11_589 CF11 rfl qp16.1 qp16.2 (by omega) rfl rfl (Nat.le_of_ble_eq_true rfl) ?_
  exact X11_alike_J194_ok C hlv hr125 h
set_option maxRecDepth 100000 in
set_option maxHeartbeats 4000000 in
theorem X11_alike_J169_ok {g : Gm} {w : Wd} (C : Cx g w RX11 cX11_alike 7 (some .int)) {lv : Nat} (hlv : 9 < lv) {N : Nat} {r125 : Nat → Int → Int → Int → Int → Int → Int → Mem → Option (Int × Mem) } {l0 : Nat} {l1 : Int} {l2 : Int} {l3 : Int} {l4 : Int} {l5 : Int} {l6 : Int} {m : Mem} {out : (Int × Mem)} (hr125 : ∀ l0 l1 l2 l3 l4 l5 l6 m, r125 l0 l1 l2 l3 l4 l5 l6 m = some out → Jd g w 7 (rmL lv 0 0) (Qm g w (some (vI out.1)) out.2) 125 [some (vR l0), some (vI l1), some (vI l2), some (vI l3), some (vI l4), some (vI l5), some (vI l6)] [] 312 m 0 0) (h : X11_alike_J169 N r125 l0 l1 l2 l3 l4 l5 l6 m = some out) : Jd g w 7 (rmL lv 0 0) (Qm g w (some (vI out.1)) out.2) 169 [some (vR l0), some (vI l1), some (vI l2), some (vI l3), some (vI l4), some (vI l5), some (vI l6)] [] 312 m 0 0 := by
  unfold X11_alike_J169 at h
  refine j_iload_n C dX11_alike_169 rfl ?_
  refine j_iconst C dX11_alike_170 rfl ?_
  refine j_icmp_ne C 186 dX11_alike_171 rfl h (fun c19 h => ?_) (fun c19 h => ?_)
  · exact X11_alike_J186_ok C hlv hr125 h
  · refine j_aload_n C dX11_alike_174 rfl ?_
    refine j_getR C dX11_alike_175 CF11 (by decide) fl_X11_170 rfl rfl h (fun t17 h => ?_)
    refine j_bipush C dX11_alike_178 rfl ?_
    refine j_iload C dX11_alike_180 rfl ?_
    refine j_iadd C dX11_alike_182 ?_
    refine j_iload C dX11_alike_183 rfl ?_
    refine j_iast C dX11_alike_185 rfl h (fun m18 h => ?_)
    exact X11_alike_J186_ok C hlv hr125 h
set_option maxRecDepth 100000 in
set_option maxHeartbeats 4000000 in
theorem X11_alike_J140_ok {g : Gm} {w : Wd} (C : Cx g w RX11 cX11_alike 7 (some .int)) {lv : Nat} (hlv : 9 < lv) {N : Nat} {r125 : Nat → Int → Int → Int → Int → Int → Int → Mem → Option (Int × Mem) } {k200 : Nat → Int → Int → Int → Int → Int → Mem → Option (Int × Mem) } {l0 : Nat} {l1 : Int} {l2 : Int} {l3 : Int} {l4 : Int} {l5 : Int} {l6 : Int} {s0 : Int} {s1 : Int} {m : Mem} {out : (Int × Mem)} (hr125 : ∀ l0 l1 l2 l3 l4 l5 l6 m, r125 l0 l1 l2 l3 l4 l5 l6 m = some out → Jd g w 7 (rmL lv 0 0) (Qm g w (some (vI out.1)) out.2) 125 [some (vR l0), some (vI l1), some (vI l2), some (vI l3), some (vI l4), some (vI l5), some (vI l6)] [] 312 m 0 0) (hk200 : ∀ l0 l1 l2 l3 l4 l5 m, k200 l0 l1 l2 l3 l4 l5 m = some out → Jd g w 7 (rmL lv 0 0) (Qm g w (some (vI out.1)) out.2) 200 [some (vR l0), some (vI l1), some (vI l2), some (vI l3), some (vI l4), some (vI l5), none] [] 312 m 0 0) (h : X11_alike_J140 N r125 k200 l0 l1 l2 l3 l4 l5 l6 s0 s1 m = some out) : Jd g w 7 (rmL lv 0 0) (Qm g w (some (vI out.1)) out.2) 140 [some (vR l0), some (vI l1), some (vI l2), some (vI l3), some (vI l4), some (vI l5), some (vI l6)] [vI s1, vI s0] 312 m 0 0 := by
  unfold X11_alike_J140 at h
  refine j_icmp_ge C 200 dX11_alike_140 rfl h (fun c24 h => ?_) (fun c24 h => ?_)
  · refine j_mask [true, true, true, true, true, true, false] (ls' := [some (vR _), some (vI _), some (vI _), some (vI _), some (vI _), some (vI _), none]) rfl ?_
    exact hk200 _ _ _ _ _ _ _ h
  · refine j_iload_n C dX11_alike_143 rfl ?_
    refine j_iconst C dX11_alike_144 rfl ?_
    refine j_icmp_ne C 169 dX11_alike_145 rfl h (fun c23 h => ?_) (fun c23 h => ?_)
    · exact X11_alike_J169_ok C hlv hr125 h
    · refine j_iload C dX11_alike_148 rfl ?_
      refine j_iload C dX11_alike_150 rfl ?_
      refine j_icmp_eq C 194 dX11_alike_152 rfl h (fun c22 h => ?_) (fun c22 h => ?_)
      · exact X11_alike_J194_ok C hlv hr125 h
      · refine j_aload_n C dX11_alike_155 rfl ?_
        refine j_iload C dX11_alike_156 rfl ?_
        refine j_iload C dX11_alike_158 rfl ?_
        obtain ⟨p20, ep20, h⟩ := bind_some h
        have qp20 := X11_canHang_ct ep20
        refine j_cVI C dX11_alike_160 vl_X11_586 CF11 rfl qp20.1 qp20.2 (by omega) rfl rfl (Nat.le_of_ble_eq_true rfl) ?_
        refine j_if_ne C 169 dX11_alike_163 rfl h (fun c21 h => ?_) (fun c21 h => ?_)
        · exact X11_alike_J169_ok C hlv hr125 h
        · refine j_goto C 194 dX11_alike_166 rfl ?_
          exact X11_alike_J194_ok C hlv hr125 h
set_option maxRecDepth 100000 in
set_option maxHeartbeats 4000000 in
theorem X11_alike_L125_bok {g : Gm} {w : Wd} (C : Cx g w RX11 cX11_alike 7 (some .int)) {lv : Nat} (hlv : 9 < lv) {N : Nat} {k200 : Nat → Int → Int → Int → Int → Int → Mem → Option (Int × Mem)} {r125 : Nat → Int → Int → Int → Int → Int → Int → Mem → Option (Int × Mem)} {l0 : Nat} {l1 : Int} {l2 : Int} {l3 : Int} {l4 : Int} {l5 : Int} {l6 : Int} {m : Mem} {out : (Int × Mem)} (hk200 : ∀ l0 l1 l2 l3 l4 l5 m, k200 l0 l1 l2 l3 l4 l5 m = some out → Jd g w 7 (rmL lv 0 0) (Qm g w (some (vI out.1)) out.2) 200 [some (vR l0), some (vI l1), some (vI l2), some (vI l3), some (vI l4), some (vI l5), none] [] 312 m 0 0) (hr125 : ∀ l0 l1 l2 l3 l4 l5 l6 m, r125 l0 l1 l2 l3 l4 l5 l6 m = some out → Jd g w 7 (rmL lv 0 0) (Qm g w (some (vI out.1)) out.2) 125 [some (vR l0), some (vI l1), some (vI l2), some (vI l3), some (vI l4), some (vI l5), some (vI l6)] [] 312 m 0 0) (h : X11_alike_L125_b N k200 r125 l0 l1 l2 l3 l4 l5 l6 m = some out) : Jd g w 7 (rmL lv 0 0) (Qm g w (some (vI out.1)) out.2) 125 [some (vR l0), some (vI l1), some (vI l2), some (vI l3), some (vI l4), some (vI l5), some (vI l6)] [] 312 m 0 0 := by
  unfold X11_alike_L125_b at h
  refine j_iload C dX11_alike_125 rfl ?_
  refine j_iload_n C dX11_alike_127 rfl ?_
  refine j_iconst C dX11_alike_128 rfl ?_
  refine j_icmp_ne C 136 dX11_alike_129 rfl h (fun c25 h => ?_) (fun c25 h => ?_)
  · refine j_aload_n C dX11_alike_136 rfl ?_
    obtain ⟨p15, ep15, h⟩ := bind_some h
    have qp15 := X11_cells_ct ep15
    refine j_cVI C dX11_alike_137 vl_X11_438 CF11 rfl qp15.1 qp15.2 (by omega) rfl rfl (Nat.le_of_ble_eq_true rfl) ?_
    exact X11_alike_J140_ok C hlv hr125 hk200 h
  · refine j_iconst C dX11_alike_132 rfl ?_
    refine j_goto C 140 dX11_alike_133 rfl ?_
    exact X11_alike_J140_ok C hlv hr125 hk200 h
set_option maxRecDepth 100000 in
set_option maxHeartbeats 4000000 in
theorem X11_alike_L125_ok {g : Gm} {w : Wd} (C : Cx g w RX11 cX11_alike 7 (some .int)) {lv : Nat} (hlv : 9 < lv) {N : Nat} {k200 : Nat → Int → Int → Int → Int → Int → Mem → Option (Int × Mem)} {out : (Int × Mem)} (hk200 : ∀ l0 l1 l2 l3 l4 l5 m, k200 l0 l1 l2 l3 l4 l5 m = some out → Jd g w 7 (rmL lv 0 0) (Qm g w (some (vI out.1)) out.2) 200 [some (vR l0), some (vI l1), some (vI l2), some (vI l3), some (vI l4), some (vI l5), none] [] 312 m 0 0) (f : Nat) : ∀ {l0 : Nat} {l1 : Int} {l2 : Int} {l3 : Int} {l4 : Int} {l5 : Int} {l6 : Int} {m : Mem}, X11_alike_L125 N k200 f l0 l1 l2 l3 l4 l5 l6 m = some out → Jd g w 7 (rmL lv 0 0) (Qm g w (some (vI out.1)) out.2) 125 [some (vR l0), some (vI l1), some (vI l2), some (vI l3), some (vI l4), some (vI l5), some (vI l6)] [] 312 m 0 0 := by
  induction f with
  | zero => intro l0 l1 l2 l3 l4 l5 l6 m h; exact none_ne (α := (Int × Mem)) h
  | succ f ih => intro l0 l1 l2 l3 l4 l5 l6 m h; exact X11_alike_L125_bok C hlv hk200 (fun l0 l1 l2 l3 l4 l5 l6 m h => ih h) h
set_option maxRecDepth 100000 in
set_option maxHeartbeats 4000000 in
theorem X11_alike_J200_ok {g : Gm} {w : Wd} (C : Cx g w RX11 cX11_alike 7 (some .int)) {lv : Nat} (hlv : 9 < lv) {N : Nat} {r89 : Nat → Int → Int → Int → Int → Int → Mem → Option (Int × Mem) } {l0 : Nat} {l1 : Int} {l2 : Int} {l3 : Int} {l4 : Int} {l5 : Int} {m : Mem} {out : (Int × Mem)} (hr89 : ∀ l0 l1 l2 l3 l4 l5 m, r89 l0 l1 l2 l3 l4 l5 m = some out → Jd g w 7 (rmL lv 0 0) (Qm g w (some (vI out.1)) out.2) 89 [some (vR l0), some (vI l1), some (vI l2), some (vI l3), some (vI l4), some (vI l5), none] [] 312 m 0 0) (h : X11_alike_J200 N r89 l0 l1 l2 l3 l4 l5 m = some out) : Jd g w 7 (rmL lv 0 0) (Qm g w (some (vI out.1)) out.2) 200 [some (vR l0), some (vI l1), some (vI l2), some (vI l3), some (vI l4), some (vI l5), none] [] 312 m 0 0 := by
  unfold X11_alike_J200 at h
  refine j_iinc (ls' := [some (vR _), some (vI _), some (vI _), some (vI _), some (vI _), some (vI _), none]) C dX11_alike_200 rfl (by decide) rfl ?_
  refine j_goto C 89 dX11_alike_203 rfl ?_
  exact hr89 _ _ _ _ _ _ _ h
set_option maxRecDepth 100000 in
set_option maxHeartbeats 4000000 in
theorem X11_alike_L89_bok {g : Gm} {w : Wd} (C : Cx g w RX11 cX11_alike 7 (some .int)) {lv : Nat} (hlv : 9 < lv) {N : Nat} {k206 : Nat → Int → Mem → Option (Int × Mem)} {r89 : Nat → Int → Int → Int → Int → Int → Mem → Option (Int × Mem)} {l0 : Nat} {l1 : Int} {l2 : Int} {l3 : Int} {l4 : Int} {l5 : Int} {m : Mem} {out : (Int × Mem)} (hk206 : ∀ l0 l2 m, k206 l0 l2 m = some out → Jd g w 7 (rmL lv 0 0) (Qm g w (some (vI out.1)) out.2) 206 [some (vR l0), none, some (vI l2), none, none, none, none] [] 312 m 0 0) (hr89 : ∀ l0 l1 l2 l3 l4 l5 m, r89 l0 l1 l2 l3 l4 l5 m = some out → Jd g w 7 (rmL lv 0 0) (Qm g w (some (vI out.1)) out.2) 89 [some (vR l0), some (vI l1), some (vI l2), some (vI l3), some (vI l4), some (vI l5), none] [] 312 m 0 0) (h : X11_alike_L89_b N k206 r89 l0 l1 l2 l3 l4 l5 m = some out) : Jd g w 7 (rmL lv 0 0) (Qm g w (some (vI out.1)) out.2) 89 [some (vR l0), some (vI l1), some (vI l2), some (vI l3), some (vI l4), some (vI l5), none] [] 312 m 0 0 := by
  unfold X11_alike_L89_b at h
  refine j_iload C dX11_alike_89 rfl ?_
  refine j_aload_n C dX11_alike_91 rfl ?_
  obtain ⟨p11, ep11, h⟩ := bind_some h
  have qp11 := X11_cells_ct ep11
  refine j_cVI C dX11_alike_92 vl_X11_438 CF11 rfl qp11.1 qp11.2 (by omega) rfl rfl (Nat.le_of_ble_eq_true rfl) ?_
  refine j_icmp_ge C 206 dX11_alike_95 rfl h (fun c34 h => ?_) (fun c34 h => ?_)
  · refine j_mask [true, false, true, false, false, false, false] (ls' := [some (vR _), none, some (vI _), none, none, none, none]) rfl ?_
    exact hk206 _ _ _ h
  · refine j_aload_n C dX11_alike_98 rfl ?_
    refine j_iload_n C dX11_alike_99 rfl ?_
    refine j_iload C dX11_alike_100 rfl ?_
    obtain ⟨p12, ep12, h⟩ := bind_some h
    have qp12 := X11_canHang_ct ep12
    refine j_cVI C dX11_alike_102 vl_X11_586 CF11 rfl qp12.1 qp12.2 (by omega) rfl rfl (Nat.le_of_ble_eq_true rfl) ?_
    refine j_if_ne C 111 dX11_alike_105 rfl h (fun c33 h => ?_) (fun c33 h => ?_)
    · refine j_aload_n C dX11_alike_111 rfl ?_
      refine j_getR C dX11_alike_112 CF11 (by decide) fl_X11_170 rfl rfl h (fun t13 h => ?_)
      refine j_bipush C dX11_alike_115 rfl ?_
      refine j_iload_n C dX11_alike_117 rfl ?_
      refine j_iadd C dX11_alike_118 ?_
      refine j_iload C dX11_alike_119 rfl ?_
      refine j_iast C dX11_alike_121 rfl h (fun m14 h => ?_)
      refine j_iconst C dX11_alike_122 rfl ?_
      refine j_istore (ls' := [some (vR _), some (vI _), some (vI _), some (vI _), some (vI _), some (vI _), some (vI _)]) C dX11_alike_123 (by decide) rfl ?_
      refine X11_alike_L125_ok C hlv (fun z26 z27 z28 z29 z30 z31 m32 h => ?_) N h
      exact X11_alike_J200_ok C hlv hr89 h
    · refine j_goto C 200 dX11_alike_108 rfl ?_
      exact X11_alike_J200_ok C hlv hr89 h
set_option maxRecDepth 100000 in
set_option maxHeartbeats 4000000 in
theorem X11_alike_L89_ok {g : Gm} {w : Wd} (C : Cx g w RX11 cX11_alike 7 (some .int)) {lv : Nat} (hlv : 9 < lv) {N : Nat} {k206 : Nat → Int → Mem → Option (Int × Mem)} {out : (Int × Mem)} (hk206 : ∀ l0 l2 m, k206 l0 l2 m = some out → Jd g w 7 (rmL lv 0 0) (Qm g w (some (vI out.1)) out.2) 206 [some (vR l0), none, some (vI l2), none, none, none, none] [] 312 m 0 0) (f : Nat) : ∀ {l0 : Nat} {l1 : Int} {l2 : Int} {l3 : Int} {l4 : Int} {l5 : Int} {m : Mem}, X11_alike_L89 N k206 f l0 l1 l2 l3 l4 l5 m = some out → Jd g w 7 (rmL lv 0 0) (Qm g w (some (vI out.1)) out.2) 89 [some (vR l0), some (vI l1), some (vI l2), some (vI l3), some (vI l4), some (vI l5), none] [] 312 m 0 0 := by
  induction f with
  | zero => intro l0 l1 l2 l3 l4 l5 m h; exact none_ne (α := (Int × Mem)) h
  | succ f ih => intro l0 l1 l2 l3 l4 l5 m h; exact X11_alike_L89_bok C hlv hk206 (fun l0 l1 l2 l3 l4 l5 m h => ih h) h
set_option maxRecDepth 100000 in
set_option maxHeartbeats 4000000 in
theorem X11_alike_J53_ok {g : Gm} {w : Wd} (C : Cx g w RX11 cX11_alike 7 (some .int)) {lv : Nat} (hlv : 9 < lv) {N : Nat} {l0 : Nat} {l1 : Int} {l2 : Int} {m : Mem} {out : (Int × Mem)} (h : X11_alike_J53 N l0 l1 l2 m = some out) : Jd g w 7 (rmL lv 0 0) (Qm g w (some (vI out.1)) out.2) 53 [some (vR l0), some (vI l1), some (vI l2), none, none, none, none] [] 312 m 0 0 := by
  unfold X11_alike_J53 at h
  refine j_aload_n C dX11_alike_53 rfl ?_
  refine j_iconst C dX11_alike_54 rfl ?_
  obtain ⟨p6, ep6, h⟩ := bind_some h
  have qp6 := X11_cloth_ct ep6
  refine j_cVI C dX11_alike_55 vl_X11_527 CF11 rfl qp6.1 qp6.2 (by omega) rfl rfl (Nat.le_of_ble_eq_true rfl) ?_
  refine j_istore_n (ls' := [some (vR _), some (vI _), some (vI _), some (vI _), none, none, none]) C dX11_alike_58 (by decide) rfl ?_
  refine j_aload_n C dX11_alike_59 rfl ?_
  refine j_iload_n C dX11_alike_60 rfl ?_
  refine j_iconst C dX11_alike_61 rfl ?_
  refine j_isub C dX11_alike_62 ?_
  obtain ⟨p7, ep7, h⟩ := bind_some h
  have qp7 := X11_cloth_ct ep7
  refine j_cVI C dX11_alike_63 vl_X11_527 CF11 rfl qp7.1 qp7.2 (by omega) rfl rfl (Nat.le_of_ble_eq_true rfl) ?_
  refine j_istore (ls' := [some (vR _), some (vI _), some (vI _), some (vI _), some (vI _), none, none]) C dX11_alike_66 (by decide) rfl ?_
  refine j_aload_n C dX11_alike_68 rfl ?_
  refine j_iconst C dX11_alike_69 rfl ?_
  refine j_iconst C dX11_alike_70 rfl ?_
  obtain ⟨p8, ep8, h⟩ := bind_some h
  have qp8 := X11_copies_ct ep8
  refine j_cVV C dX11_alike_71 vl_X11_448 CF11 rfl qp8.1 qp8.2 (by omega) rfl rfl (Nat.le_of_ble_eq_true rfl) ?_
  refine j_aload_n C dX11_alike_74 rfl ?_
  refine j_ldcw (v := 1000000) C dX11_alike_75 k_X11_585 rfl rfl ?_
  refine j_putI C dX11_alike_78 CF11 (by decide) fl_X11_221 rfl rfl rfl rfl h (fun m9 h => ?_)
  refine j_aload_n C dX11_alike_81 rfl ?_
  refine j_iconst C dX11_alike_82 rfl ?_
  refine j_putI C dX11_alike_83 CF11 (by decide) fl_X11_224 rfl rfl rfl rfl h (fun m10 h => ?_)
  refine j_iconst C dX11_alike_86 rfl ?_
  refine j_istore (ls' := [some (vR _), some (vI _), some (vI _), some (vI _), some (vI _), some (vI _), none]) C dX11_alike_87 (by decide) rfl ?_
  refine X11_alike_L89_ok C hlv (fun z35 z36 m37 h => ?_) N h
  refine j_iload_n C dX11_alike_206 rfl ?_
  refine j_iconst C dX11_alike_207 rfl ?_
  refine j_icmp_ne C 218 dX11_alike_208 rfl h (fun c43 h => ?_) (fun c43 h => ?_)
  · refine j_iload_n C dX11_alike_218 rfl ?_
    refine j_bipush C dX11_alike_219 rfl ?_
    refine j_icmp_ne C 231 dX11_alike_221 rfl h (fun c41 h => ?_) (fun c41 h => ?_)
    · refine j_aload_n C dX11_alike_231 rfl ?_
      refine j_getR C dX11_alike_232 CF11 (by decide) fl_X11_227 rfl rfl h (fun t38 h => ?_)
      refine j_iload_n C dX11_alike_235 rfl ?_
      refine j_iald C dX11_alike_236 rfl h (fun t39 h => ?_)
      have e := Option.some.inj h
      subst e
      exact j_ri C dX11_alike_237 rfl rfl rfl
    · refine j_aload_n C dX11_alike_224 rfl ?_
      refine j_getI C dX11_alike_225 CF11 (by decide) fl_X11_224 rfl rfl h (fun t40 h => ?_)
      refine j_goto C 237 dX11_alike_228 rfl ?_
      have e := Option.some.inj h
      subst e
      exact j_ri C dX11_alike_237 rfl rfl rfl
  · refine j_aload_n C dX11_alike_211 rfl ?_
    refine j_getI C dX11_alike_212 CF11 (by decide) fl_X11_221 rfl rfl h (fun t42 h => ?_)
    refine j_goto C 237 dX11_alike_215 rfl ?_
    have e := Option.some.inj h
    subst e
    exact j_ri C dX11_alike_237 rfl rfl rfl
set_option maxRecDepth 100000 in
set_option maxHeartbeats 4000000 in
theorem X11_alike_ct {N : Nat} {l0 : Nat} {l1 : Int} {l2 : Int} {m : Mem} {out : (Int × Mem)} (h : X11_alike N l0 l1 l2 m = some out) : shK l0 = 11 + 10 ∧ CT yX11_alike cX11_alike 7 (some .int) 10 0 0 [vR l0, vI l1, vI l2] 312 m (some (vI out.1)) 312 out.2 := by
  unfold X11_alike at h
  obtain ⟨hK, h⟩ := ite_some h
  have hlv : 9 < 10 := by decide
  refine ⟨hK, CT.of (by decide +kernel) rfl (Nat.le_of_ble_eq_true rfl) (ls := [some (vR l0), some (vI l1), some (vI l2), none, none, none, none]) rfl fun g w C _ => ?_⟩
  refine j_iload_n C dX11_alike_0 rfl ?_
  refine j_iconst C dX11_alike_1 rfl ?_
  refine j_iconst C dX11_alike_2 rfl ?_
  obtain ⟨p1, ep1, h⟩ := bind_some h
  have qp1 := X11_is_ct ep1
  refine j_cSI C dX11_alike_3 sl_X11_334 qp1 (by omega) rfl rfl (Nat.le_of_ble_eq_true rfl) ?_
  refine j_if_eq C 51 dX11_alike_6 rfl h (fun c50 h => ?_) (fun c50 h => ?_)
  · refine j_iconst C dX11_alike_51 rfl ?_
    have e := Option.some.inj h
    subst e
    exact j_ri C dX11_alike_52 rfl rfl rfl
  · refine j_aload_n C dX11_alike_9 rfl ?_
    refine j_getR C dX11_alike_10 CF11 (by decide) fl_X11_75 rfl rfl h (fun t2 h => ?_)
    refine j_aload_n C dX11_alike_13 rfl ?_
    refine j_getI C dX11_alike_14 CF11 (by decide) fl_X11_51 rfl rfl h (fun t3 h => ?_)
    refine j_iald C dX11_alike_17 rfl h (fun t4 h => ?_)
    refine j_if_eq C 51 dX11_alike_18 rfl h (fun c49 h => ?_) (fun c49 h => ?_)
    · refine j_iconst C dX11_alike_51 rfl ?_
      have e := Option.some.inj h
      subst e
      exact j_ri C dX11_alike_52 rfl rfl rfl
    · refine j_aload_n C dX11_alike_21 rfl ?_
      obtain ⟨p5, ep5, h⟩ := bind_some h
      have qp5 := X11_cloths_ct ep5
      refine j_cVI C dX11_alike_22 vl_X11_524 CF11 rfl qp5.1 qp5.2 (by omega) rfl rfl (Nat.le_of_ble_eq_true rfl) ?_
      refine j_iload_n C dX11_alike_25 rfl ?_
      refine j_icmp_lt C 51 dX11_alike_26 rfl h (fun c48 h => ?_) (fun c48 h => ?_)
      · refine j_iconst C dX11_alike_51 rfl ?_
        have e := Option.some.inj h
        subst e
        exact j_ri C dX11_alike_52 rfl rfl rfl
      · refine j_iload_n C dX11_alike_29 rfl ?_
        refine j_iconst C dX11_alike_30 rfl ?_
        refine j_icmp_eq C 53 dX11_alike_31 rfl h (fun c47 h => ?_) (fun c47 h => ?_)
        · exact X11_alike_J53_ok C hlv h
        · refine j_iload_n C dX11_alike_34 rfl ?_
          refine j_bipush C dX11_alike_35 rfl ?_
          refine j_icmp_eq C 53 dX11_alike_37 rfl h (fun c46 h => ?_) (fun c46 h => ?_)
          · exact X11_alike_J53_ok C hlv h
          · refine j_iload_n C dX11_alike_40 rfl ?_
            refine j_iconst C dX11_alike_41 rfl ?_
            refine j_iload_n C dX11_alike_42 rfl ?_
            refine j_iconst C dX11_alike_43 rfl ?_
            refine j_isub C dX11_alike_44 ?_
            obtain ⟨p44, ep44, h⟩ := bind_some h
            have qp44 := X11_is_ct ep44
            refine j_cSI C dX11_alike_45 sl_X11_334 qp44 (by omega) rfl rfl (Nat.le_of_ble_eq_true rfl) ?_
            refine j_if_ne C 53 dX11_alike_48 rfl h (fun c45 h => ?_) (fun c45 h => ?_)
            · exact X11_alike_J53_ok C hlv h
            · refine j_iconst C dX11_alike_51 rfl ?_
              have e := Option.some.inj h
              subst e
              exact j_ri C dX11_alike_52 rfl rfl rfl
