theorem dJ7_fill_53178_0 : decode cJ7_fill_53178 0 = .ok (.iconst 0, 1) := by decide +kernel
theorem dJ7_fill_53178_1 : decode cJ7_fill_53178 1 = .ok (.istore_n 2, 1) := by decide +kernel
theorem dJ7_fill_53178_2 : decode cJ7_fill_53178 2 = .ok (.aload_n 0, 1) := by decide +kernel
theorem dJ7_fill_53178_3 : decode cJ7_fill_53178 3 = .ok (.arraylength, 1) := by decide +kernel
theorem dJ7_fill_53178_4 : decode cJ7_fill_53178 4 = .ok (.istore_n 3, 1) := by decide +kernel
theorem dJ7_fill_53178_5 : decode cJ7_fill_53178 5 = .ok (.iload_n 2, 1) := by decide +kernel
theorem dJ7_fill_53178_6 : decode cJ7_fill_53178 6 = .ok (.iload_n 3, 1) := by decide +kernel
theorem dJ7_fill_53178_7 : decode cJ7_fill_53178 7 = .ok (.if_icmp .ge 13, 3) := by decide +kernel
theorem dJ7_fill_53178_10 : decode cJ7_fill_53178 10 = .ok (.aload_n 0, 1) := by decide +kernel
theorem dJ7_fill_53178_11 : decode cJ7_fill_53178 11 = .ok (.iload_n 2, 1) := by decide +kernel
theorem dJ7_fill_53178_12 : decode cJ7_fill_53178 12 = .ok (.iload_n 1, 1) := by decide +kernel
theorem dJ7_fill_53178_13 : decode cJ7_fill_53178 13 = .ok (.iastore, 1) := by decide +kernel
theorem dJ7_fill_53178_14 : decode cJ7_fill_53178 14 = .ok (.iinc 2 1, 3) := by decide +kernel
theorem dJ7_fill_53178_17 : decode cJ7_fill_53178 17 = .ok (.goto (-12), 3) := by decide +kernel
theorem dJ7_fill_53178_20 : decode cJ7_fill_53178 20 = .ok (.return_, 1) := by decide +kernel
set_option maxRecDepth 100000 in
set_option maxHeartbeats 4000000 in
theorem J7_fill_53178_L5_bok {g : Gm} {w : Wd} (C : Cx g w RJ7 cJ7_fill_53178 4 none) {lv : Nat} (hlv : 0 < lv) {N : Nat} {r5 : Nat → Int → Int → Int → Mem → Option Mem} {l0 : Nat} {l1 : Int} {l2 : Int} {l3 : Int} {m : Mem} {out : Mem} (hr5 : ∀ l0 l1 l2 l3 m, r5 l0 l1 l2 l3 m = some out → Jd g w 4 (rmL lv 0 0) (Qm g w none out) 5 [some (vR l0), some (vI l1), some (vI l2), some (vI l3)] [] 312 m 0 0) (h : J7_fill_53178_L5_b N r5 l0 l1 l2 l3 m = some out) : Jd g w 4 (rmL lv 0 0) (Qm g w none out) 5 [some (vR l0), some (vI l1), some (vI l2), some (vI l3)] [] 312 m 0 0 := by
  unfold J7_fill_53178_L5_b at h
  refine j_iload_n C dJ7_fill_53178_5 rfl ?_
  refine j_iload_n C dJ7_fill_53178_6 rfl ?_
  refine j_icmp_ge C 20 dJ7_fill_53178_7 rfl h (fun c3 h => ?_) (fun c3 h => ?_)
  · have e := Option.some.inj h
    subst e
    exact j_rv C dJ7_fill_53178_20 rfl rfl
  · refine j_aload_n C dJ7_fill_53178_10 rfl ?_
    refine j_iload_n C dJ7_fill_53178_11 rfl ?_
    refine j_iload_n C dJ7_fill_53178_12 rfl ?_
    refine j_iast C dJ7_fill_53178_13 rfl h (fun m2 h => ?_)
    refine j_iinc (ls' := [some (vR _), some (vI _), some (vI _), some (vI _)]) C dJ7_fill_53178_14 rfl (by decide) rfl ?_
    refine j_goto C 5 dJ7_fill_53178_17 rfl ?_
    exact hr5 _ _ _ _ _ h
set_option maxRecDepth 100000 in
set_option maxHeartbeats 4000000 in
theorem J7_fill_53178_L5_ok {g : Gm} {w : Wd} (C : Cx g w RJ7 cJ7_fill_53178 4 none) {lv : Nat} (hlv : 0 < lv) {N : Nat} {out : Mem} (f : Nat) : ∀ {l0 : Nat} {l1 : Int} {l2 : Int} {l3 : Int} {m : Mem}, J7_fill_53178_L5 N f l0 l1 l2 l3 m = some out → Jd g w 4 (rmL lv 0 0) (Qm g w none out) 5 [some (vR l0), some (vI l1), some (vI l2), some (vI l3)] [] 312 m 0 0 := by
  induction f with
  | zero => intro l0 l1 l2 l3 m h; exact none_ne (α := Mem) h
  | succ f ih => intro l0 l1 l2 l3 m h; exact J7_fill_53178_L5_bok C hlv (fun l0 l1 l2 l3 m h => ih h) h
set_option maxRecDepth 100000 in
set_option maxHeartbeats 4000000 in
theorem J7_fill_53178_ct {N : Nat} {l0 : Nat} {l1 : Int} {m : Mem} {out : Mem} (h : J7_fill_53178 N l0 l1 m = some out) : CT yJ7_fill_53178 cJ7_fill_53178 4 none 1 0 0 [vR l0, vI l1] 312 m none 312 out := by
  unfold J7_fill_53178 at h
  have hlv : 0 < 1 := by decide
  refine CT.of (by decide +kernel) rfl (Nat.le_of_ble_eq_true rfl) (ls := [some (vR l0), some (vI l1), none, none]) rfl fun g w C _ => ?_
  refine j_iconst C dJ7_fill_53178_0 rfl ?_
  refine j_istore_n (ls' := [some (vR _), some (vI _), some (vI _), none]) C dJ7_fill_53178_1 (by decide) rfl ?_
  refine j_aload_n C dJ7_fill_53178_2 rfl ?_
  refine j_alen C dJ7_fill_53178_3 rfl h (fun t1 h => ?_)
  refine j_istore_n (ls' := [some (vR _), some (vI _), some (vI _), some (vI _)]) C dJ7_fill_53178_4 (by decide) rfl ?_
  exact J7_fill_53178_L5_ok C hlv N h
theorem dX5_cells_0 : decode cX5_cells 0 = .ok (.aload_n 0, 1) := by decide +kernel
theorem dX5_cells_1 : decode cX5_cells 1 = .ok (.getfield 9, 3) := by decide +kernel
theorem dX5_cells_4 : decode cX5_cells 4 = .ok (.aload_n 0, 1) := by decide +kernel
theorem dX5_cells_5 : decode cX5_cells 5 = .ok (.getfield 15, 3) := by decide +kernel
theorem dX5_cells_8 : decode cX5_cells 8 = .ok (.imul, 1) := by decide +kernel
theorem dX5_cells_9 : decode cX5_cells 9 = .ok (.ireturn, 1) := by decide +kernel
set_option maxRecDepth 100000 in
set_option maxHeartbeats 4000000 in
theorem X5_cells_ct {l0 : Nat} {m : Mem} {out : Int} (h : X5_cells l0 m = some out) : shK l0 = 5 + 10 ∧ CT yX5_cells cX5_cells 1 (some .int) 1 0 0 [vR l0] 312 m (some (vI out)) 312 m := by
  unfold X5_cells at h
  obtain ⟨hK, h⟩ := ite_some h
  have hlv : 0 < 1 := by decide
  refine ⟨hK, CT.of (by decide +kernel) rfl (Nat.le_of_ble_eq_true rfl) (ls := [some (vR l0)]) rfl fun g w C _ => ?_⟩
  refine j_aload_n C dX5_cells_0 rfl ?_
  refine j_getI C dX5_cells_1 CF5 (by decide) fl_X5_9 rfl rfl h (fun t1 h => ?_)
  refine j_aload_n C dX5_cells_4 rfl ?_
  refine j_getI C dX5_cells_5 CF5 (by decide) fl_X5_15 rfl rfl h (fun t2 h => ?_)
  refine j_imul C dX5_cells_8 ?_
  exact j_ri C dX5_cells_9 rfl (Option.some.inj h).symm rfl
theorem dX5_isCell_0 : decode cX5_isCell 0 = .ok (.iload_n 1, 1) := by decide +kernel
theorem dX5_isCell_1 : decode cX5_isCell 1 = .ok (.ifCond .lt 20, 3) := by decide +kernel
theorem dX5_isCell_4 : decode cX5_isCell 4 = .ok (.iload_n 1, 1) := by decide +kernel
theorem dX5_isCell_5 : decode cX5_isCell 5 = .ok (.aload_n 0, 1) := by decide +kernel
theorem dX5_isCell_6 : decode cX5_isCell 6 = .ok (.getfield 9, 3) := by decide +kernel
theorem dX5_isCell_9 : decode cX5_isCell 9 = .ok (.aload_n 0, 1) := by decide +kernel
theorem dX5_isCell_10 : decode cX5_isCell 10 = .ok (.getfield 15, 3) := by decide +kernel
theorem dX5_isCell_13 : decode cX5_isCell 13 = .ok (.imul, 1) := by decide +kernel
theorem dX5_isCell_14 : decode cX5_isCell 14 = .ok (.if_icmp .ge 7, 3) := by decide +kernel
theorem dX5_isCell_17 : decode cX5_isCell 17 = .ok (.iconst 1, 1) := by decide +kernel
theorem dX5_isCell_18 : decode cX5_isCell 18 = .ok (.goto 4, 3) := by decide +kernel
theorem dX5_isCell_21 : decode cX5_isCell 21 = .ok (.iconst 0, 1) := by decide +kernel
theorem dX5_isCell_22 : decode cX5_isCell 22 = .ok (.ireturn, 1) := by decide +kernel
set_option maxRecDepth 100000 in
set_option maxHeartbeats 4000000 in
theorem X5_isCell_ct {l0 : Nat} {l1 : Int} {m : Mem} {out : Int} (h : X5_isCell l0 l1 m = some out) : shK l0 = 5 + 10 ∧ CT yX5_isCell cX5_isCell 2 (some .boolean) 1 0 0 [vR l0, vI l1] 312 m (some (vI out)) 312 m := by
  unfold X5_isCell at h
  obtain ⟨hK, h⟩ := ite_some h
  have hlv : 0 < 1 := by decide
  refine ⟨hK, CT.of (by decide +kernel) rfl (Nat.le_of_ble_eq_true rfl) (ls := [some (vR l0), some (vI l1)]) rfl fun g w C _ => ?_⟩
  refine j_iload_n C dX5_isCell_0 rfl ?_
  refine j_if_lt C 21 dX5_isCell_1 rfl h (fun c4 h => ?_) (fun c4 h => ?_)
  · refine j_iconst C dX5_isCell_21 rfl ?_
    exact j_rz C dX5_isCell_22 rfl (retZ_some h) rfl
  · refine j_iload_n C dX5_isCell_4 rfl ?_
    refine j_aload_n C dX5_isCell_5 rfl ?_
    refine j_getI C dX5_isCell_6 CF5 (by decide) fl_X5_9 rfl rfl h (fun t1 h => ?_)
    refine j_aload_n C dX5_isCell_9 rfl ?_
    refine j_getI C dX5_isCell_10 CF5 (by decide) fl_X5_15 rfl rfl h (fun t2 h => ?_)
    refine j_imul C dX5_isCell_13 ?_
    refine j_icmp_ge C 21 dX5_isCell_14 rfl h (fun c3 h => ?_) (fun c3 h => ?_)
    · refine j_iconst C dX5_isCell_21 rfl ?_
      exact j_rz C dX5_isCell_22 rfl (retZ_some h) rfl
    · refine j_iconst C dX5_isCell_17 rfl ?_
      refine j_goto C 22 dX5_isCell_18 rfl ?_
      exact j_rz C dX5_isCell_22 rfl (retZ_some h) rfl
theorem dX1_hasWall_0 : decode cX1_hasWall 0 = .ok (.iload_n 1, 1) := by decide +kernel
theorem dX1_hasWall_1 : decode cX1_hasWall 1 = .ok (.ifCond .lt 26, 3) := by decide +kernel
theorem dX1_hasWall_4 : decode cX1_hasWall 4 = .ok (.iload_n 1, 1) := by decide +kernel
theorem dX1_hasWall_5 : decode cX1_hasWall 5 = .ok (.aload_n 0, 1) := by decide +kernel
theorem dX1_hasWall_6 : decode cX1_hasWall 6 = .ok (.getfield 9, 3) := by decide +kernel
theorem dX1_hasWall_9 : decode cX1_hasWall 9 = .ok (.arraylength, 1) := by decide +kernel
theorem dX1_hasWall_10 : decode cX1_hasWall 10 = .ok (.if_icmp .ge 17, 3) := by decide +kernel
theorem dX1_hasWall_13 : decode cX1_hasWall 13 = .ok (.aload_n 0, 1) := by decide +kernel
theorem dX1_hasWall_14 : decode cX1_hasWall 14 = .ok (.getfield 9, 3) := by decide +kernel
theorem dX1_hasWall_17 : decode cX1_hasWall 17 = .ok (.iload_n 1, 1) := by decide +kernel
theorem dX1_hasWall_18 : decode cX1_hasWall 18 = .ok (.iaload, 1) := by decide +kernel
theorem dX1_hasWall_19 : decode cX1_hasWall 19 = .ok (.iconst 1, 1) := by decide +kernel
theorem dX1_hasWall_20 : decode cX1_hasWall 20 = .ok (.if_icmp .ne 7, 3) := by decide +kernel
theorem dX1_hasWall_23 : decode cX1_hasWall 23 = .ok (.iconst 1, 1) := by decide +kernel
theorem dX1_hasWall_24 : decode cX1_hasWall 24 = .ok (.goto 4, 3) := by decide +kernel
theorem dX1_hasWall_27 : decode cX1_hasWall 27 = .ok (.iconst 0, 1) := by decide +kernel
theorem dX1_hasWall_28 : decode cX1_hasWall 28 = .ok (.ireturn, 1) := by decide +kernel
set_option maxRecDepth 100000 in
set_option maxHeartbeats 4000000 in
theorem X1_hasWall_ct {l0 : Nat} {l1 : Int} {m : Mem} {out : Int} (h : X1_hasWall l0 l1 m = some out) : shK l0 = 1 + 10 ∧ CT yX1_hasWall cX1_hasWall 2 (some .boolean) 1 0 0 [vR l0, vI l1] 312 m (some (vI out)) 312 m := by
  unfold X1_hasWall at h
  obtain ⟨hK, h⟩ := ite_some h
  have hlv : 0 < 1 := by decide
  refine ⟨hK, CT.of (by decide +kernel) rfl (Nat.le_of_ble_eq_true rfl) (ls := [some (vR l0), some (vI l1)]) rfl fun g w C _ => ?_⟩
  refine j_iload_n C dX1_hasWall_0 rfl ?_
  refine j_if_lt C 27 dX1_hasWall_1 rfl h (fun c7 h => ?_) (fun c7 h => ?_)
  · refine j_iconst C dX1_hasWall_27 rfl ?_
    exact j_rz C dX1_hasWall_28 rfl (retZ_some h) rfl
  · refine j_iload_n C dX1_hasWall_4 rfl ?_
    refine j_aload_n C dX1_hasWall_5 rfl ?_
    refine j_getR C dX1_hasWall_6 CF1 (by decide) fl_X1_9 rfl rfl h (fun t1 h => ?_)
    refine j_alen C dX1_hasWall_9 rfl h (fun t2 h => ?_)
    refine j_icmp_ge C 27 dX1_hasWall_10 rfl h (fun c6 h => ?_) (fun c6 h => ?_)
    · refine j_iconst C dX1_hasWall_27 rfl ?_
      exact j_rz C dX1_hasWall_28 rfl (retZ_some h) rfl
    · refine j_aload_n C dX1_hasWall_13 rfl ?_
      refine j_getR C dX1_hasWall_14 CF1 (by decide) fl_X1_9 rfl rfl h (fun t3 h => ?_)
      refine j_iload_n C dX1_hasWall_17 rfl ?_
      refine j_iald C dX1_hasWall_18 rfl h (fun t4 h => ?_)
      refine j_iconst C dX1_hasWall_19 rfl ?_
      refine j_icmp_ne C 27 dX1_hasWall_20 rfl h (fun c5 h => ?_) (fun c5 h => ?_)
      · refine j_iconst C dX1_hasWall_27 rfl ?_
        exact j_rz C dX1_hasWall_28 rfl (retZ_some h) rfl
      · refine j_iconst C dX1_hasWall_23 rfl ?_
        refine j_goto C 28 dX1_hasWall_24 rfl ?_
        exact j_rz C dX1_hasWall_28 rfl (retZ_some h) rfl
theorem dX5_lower_0 : decode cX5_lower 0 = .ok (.iconst (-1), 1) := by decide +kernel
theorem dX5_lower_1 : decode cX5_lower 1 = .ok (.istore_n 3, 1) := by decide +kernel
theorem dX5_lower_2 : decode cX5_lower 2 = .ok (.aload_n 0, 1) := by decide +kernel
theorem dX5_lower_3 : decode cX5_lower 3 = .ok (.iload_n 2, 1) := by decide +kernel
theorem dX5_lower_4 : decode cX5_lower 4 = .ok (.invokevirtual 118, 3) := by decide +kernel
theorem dX5_lower_7 : decode cX5_lower 7 = .ok (.ifCond .eq 12, 3) := by decide +kernel
theorem dX5_lower_10 : decode cX5_lower 10 = .ok (.aload_n 0, 1) := by decide +kernel
theorem dX5_lower_11 : decode cX5_lower 11 = .ok (.getfield 23, 3) := by decide +kernel
theorem dX5_lower_14 : decode cX5_lower 14 = .ok (.iload_n 2, 1) := by decide +kernel
theorem dX5_lower_15 : decode cX5_lower 15 = .ok (.iaload, 1) := by decide +kernel
theorem dX5_lower_16 : decode cX5_lower 16 = .ok (.goto 4, 3) := by decide +kernel
theorem dX5_lower_19 : decode cX5_lower 19 = .ok (.iconst 0, 1) := by decide +kernel
theorem dX5_lower_20 : decode cX5_lower 20 = .ok (.istore 4, 2) := by decide +kernel
theorem dX5_lower_22 : decode cX5_lower 22 = .ok (.iconst 0, 1) := by decide +kernel
theorem dX5_lower_23 : decode cX5_lower 23 = .ok (.istore 5, 2) := by decide +kernel
theorem dX5_lower_25 : decode cX5_lower 25 = .ok (.iload 5, 2) := by decide +kernel
theorem dX5_lower_27 : decode cX5_lower 27 = .ok (.iconst 4, 1) := by decide +kernel
theorem dX5_lower_28 : decode cX5_lower 28 = .ok (.if_icmp .ge 70, 3) := by decide +kernel
theorem dX5_lower_31 : decode cX5_lower 31 = .ok (.aload_n 0, 1) := by decide +kernel
theorem dX5_lower_32 : decode cX5_lower 32 = .ok (.iload_n 2, 1) := by decide +kernel
theorem dX5_lower_33 : decode cX5_lower 33 = .ok (.invokevirtual 118, 3) := by decide +kernel
theorem dX5_lower_36 : decode cX5_lower 36 = .ok (.ifCond .eq 62, 3) := by decide +kernel
theorem dX5_lower_39 : decode cX5_lower 39 = .ok (.aload_n 0, 1) := by decide +kernel
theorem dX5_lower_40 : decode cX5_lower 40 = .ok (.getfield 20, 3) := by decide +kernel
theorem dX5_lower_43 : decode cX5_lower 43 = .ok (.iload 5, 2) := by decide +kernel
theorem dX5_lower_45 : decode cX5_lower 45 = .ok (.aaload, 1) := by decide +kernel
theorem dX5_lower_46 : decode cX5_lower 46 = .ok (.iload_n 2, 1) := by decide +kernel
theorem dX5_lower_47 : decode cX5_lower 47 = .ok (.iaload, 1) := by decide +kernel
theorem dX5_lower_48 : decode cX5_lower 48 = .ok (.istore 6, 2) := by decide +kernel
theorem dX5_lower_50 : decode cX5_lower 50 = .ok (.aload_n 0, 1) := by decide +kernel
theorem dX5_lower_51 : decode cX5_lower 51 = .ok (.iload 6, 2) := by decide +kernel
theorem dX5_lower_53 : decode cX5_lower 53 = .ok (.invokevirtual 118, 3) := by decide +kernel
theorem dX5_lower_56 : decode cX5_lower 56 = .ok (.ifCond .eq 36, 3) := by decide +kernel
theorem dX5_lower_59 : decode cX5_lower 59 = .ok (.aload_n 1, 1) := by decide +kernel
theorem dX5_lower_60 : decode cX5_lower 60 = .ok (.iload 6, 2) := by decide +kernel
theorem dX5_lower_62 : decode cX5_lower 62 = .ok (.invokevirtual 125, 3) := by decide +kernel
theorem dX5_lower_65 : decode cX5_lower 65 = .ok (.ifCond .ne 27, 3) := by decide +kernel
theorem dX5_lower_68 : decode cX5_lower 68 = .ok (.aload_n 0, 1) := by decide +kernel
theorem dX5_lower_69 : decode cX5_lower 69 = .ok (.getfield 23, 3) := by decide +kernel
theorem dX5_lower_72 : decode cX5_lower 72 = .ok (.iload 6, 2) := by decide +kernel
theorem dX5_lower_74 : decode cX5_lower 74 = .ok (.iaload, 1) := by decide +kernel
theorem dX5_lower_75 : decode cX5_lower 75 = .ok (.iload 4, 2) := by decide +kernel
theorem dX5_lower_77 : decode cX5_lower 77 = .ok (.if_icmp .ge 15, 3) := by decide +kernel
theorem dX5_lower_80 : decode cX5_lower 80 = .ok (.aload_n 0, 1) := by decide +kernel
theorem dX5_lower_81 : decode cX5_lower 81 = .ok (.getfield 23, 3) := by decide +kernel
theorem dX5_lower_84 : decode cX5_lower 84 = .ok (.iload 6, 2) := by decide +kernel
theorem dX5_lower_86 : decode cX5_lower 86 = .ok (.iaload, 1) := by decide +kernel
theorem dX5_lower_87 : decode cX5_lower 87 = .ok (.istore 4, 2) := by decide +kernel
theorem dX5_lower_89 : decode cX5_lower 89 = .ok (.iload 6, 2) := by decide +kernel
theorem dX5_lower_91 : decode cX5_lower 91 = .ok (.istore_n 3, 1) := by decide +kernel
theorem dX5_lower_92 : decode cX5_lower 92 = .ok (.iinc 5 1, 3) := by decide +kernel
theorem dX5_lower_95 : decode cX5_lower 95 = .ok (.goto (-70), 3) := by decide +kernel
theorem dX5_lower_98 : decode cX5_lower 98 = .ok (.iload_n 3, 1) := by decide +kernel
theorem dX5_lower_99 : decode cX5_lower 99 = .ok (.ireturn, 1) := by decide +kernel
set_option maxRecDepth 100000 in
set_option maxHeartbeats 4000000 in
theorem X5_lower_J92_ok {g : Gm} {w : Wd} (C : Cx g w RX5 cX5_lower 7 (some .int)) {lv : Nat} (hlv : 1 < lv) {N : Nat} {r25 : Nat → Nat → Int → Int → Int → Int → Option Int } {l0 : Nat} {l1 : Nat} {l2 : Int} {l3 : Int} {l4 : Int} {l5 : Int} {m : Mem} {out : Int} (hr25 : ∀ l0 l1 l2 l3 l4 l5, r25 l0 l1 l2 l3 l4 l5 = some out → Jd g w 7 (rmL lv 0 0) (Qm g w (some (vI out)) m) 25 [some (vR l0), some (vR l1), some (vI l2), some (vI l3), some (vI l4), some (vI l5), none] [] 312 m 0 0) (h : X5_lower_J92 N r25 l0 l1 l2 l3 l4 l5 m = some out) : Jd g w 7 (rmL lv 0 0) (Qm g w (some (vI out)) m) 92 [some (vR l0), some (vR l1), some (vI l2), some (vI l3), some (vI l4), some (vI l5), none] [] 312 m 0 0 := by
  unfold X5_lower_J92 at h
  refine j_iinc (ls' := [some (vR _), some (vR _), some (vI _), some (vI _), some (vI _), some (vI _), none]) C dX5_lower_92 rfl (by decide) rfl ?_
  refine j_goto C 25 dX5_lower_95 rfl ?_
  exact hr25 _ _ _ _ _ _ h
set_option maxRecDepth 100000 in
set_option maxHeartbeats 4000000 in
theorem X5_lower_L25_bok {g : Gm} {w : Wd} (C : Cx g w RX5 cX5_lower 7 (some .int)) {lv : Nat} (hlv : 1 < lv) {N : Nat} {r25 : Nat → Nat → Int → Int → Int → Int → Option Int} {l0 : Nat} {l1 : Nat} {l2 : Int} {l3 : Int} {l4 : Int} {l5 : Int} {m : Mem} {out : Int} (hr25 : ∀ l0 l1 l2 l3 l4 l5, r25 l0 l1 l2 l3 l4 l5 = some out → Jd g w 7 (rmL lv 0 0) (Qm g w (some (vI out)) m) 25 [some (vR l0), some (vR l1), some (vI l2), some (vI l3), some (vI l4), some (vI l5), none] [] 312 m 0 0) (h : X5_lower_L25_b N m r25 l0 l1 l2 l3 l4 l5 = some out) : Jd g w 7 (rmL lv 0 0) (Qm g w (some (vI out)) m) 25 [some (vR l0), some (vR l1), some (vI l2), some (vI l3), some (vI l4), some (vI l5), none] [] 312 m 0 0 := by
  unfold X5_lower_L25_b at h
  refine j_iload C dX5_lower_25 rfl ?_
  refine j_iconst C dX5_lower_27 rfl ?_
  refine j_icmp_ge C 98 dX5_lower_28 rfl h (fun c16 h => ?_) (fun c16 h => ?_)
  · refine j_iload_n C dX5_lower_98 rfl ?_
    exact j_ri C dX5_lower_99 rfl (Option.some.inj h).symm rfl
  · refine j_aload_n C dX5_lower_31 rfl ?_
    refine j_iload_n C dX5_lower_32 rfl ?_
    obtain ⟨p2, ep2, h⟩ := bind_some h
    have qp2 := X5_isCell_ct ep2
    refine j_cVI C dX5_lower_33 vl_X5_118 CF5 rfl qp2.1 qp2.2 (by omega) rfl rfl (Nat.le_of_ble_eq_true rfl) ?_
    refine j_if_eq C 98 dX5_lower_36 rfl h (fun c15 h => ?_) (fun c15 h => ?_)
    · refine j_iload_n C dX5_lower_98 rfl ?_
      exact j_ri C dX5_lower_99 rfl (Option.some.inj h).symm rfl
    · refine j_aload_n C dX5_lower_39 rfl ?_
      refine j_getR C dX5_lower_40 CF5 (by decide) fl_X5_20 rfl rfl h (fun t3 h => ?_)
      refine j_iload C dX5_lower_43 rfl ?_
      refine j_aald C dX5_lower_45 rfl h (fun t4 h => ?_)
      refine j_iload_n C dX5_lower_46 rfl ?_
      refine j_iald C dX5_lower_47 rfl h (fun t5 h => ?_)
      refine j_istore (ls' := [some (vR _), some (vR _), some (vI _), some (vI _), some (vI _), some (vI _), some (vI _)]) C dX5_lower_48 (by decide) rfl ?_
      refine j_aload_n C dX5_lower_50 rfl ?_
      refine j_iload C dX5_lower_51 rfl ?_
      obtain ⟨p6, ep6, h⟩ := bind_some h
      have qp6 := X5_isCell_ct ep6
      refine j_cVI C dX5_lower_53 vl_X5_118 CF5 rfl qp6.1 qp6.2 (by omega) rfl rfl (Nat.le_of_ble_eq_true rfl) ?_
      refine j_if_eq C 92 dX5_lower_56 rfl h (fun c14 h => ?_) (fun c14 h => ?_)
      · refine j_mask [true, true, true, true, true, true, false] (ls' := [some (vR _), some (vR _), some (vI _), some (vI _), some (vI _), some (vI _), none]) rfl ?_
        exact X5_lower_J92_ok C hlv hr25 h
      · refine j_aload_n C dX5_lower_59 rfl ?_
        refine j_iload C dX5_lower_60 rfl ?_
        obtain ⟨p7, ep7, h⟩ := bind_some h
        have qp7 := X1_hasWall_ct ep7
        refine j_cVI C dX5_lower_62 vl_X5_125 CF1 rfl qp7.1 qp7.2 (by omega) rfl rfl (Nat.le_of_ble_eq_true rfl) ?_
        refine j_if_ne C 92 dX5_lower_65 rfl h (fun c13 h => ?_) (fun c13 h => ?_)
        · refine j_mask [true, true, true, true, true, true, false] (ls' := [some (vR _), some (vR _), some (vI _), some (vI _), some (vI _), some (vI _), none]) rfl ?_
          exact X5_lower_J92_ok C hlv hr25 h
        · refine j_aload_n C dX5_lower_68 rfl ?_
          refine j_getR C dX5_lower_69 CF5 (by decide) fl_X5_23 rfl rfl h (fun t8 h => ?_)
          refine j_iload C dX5_lower_72 rfl ?_
          refine j_iald C dX5_lower_74 rfl h (fun t9 h => ?_)
          refine j_iload C dX5_lower_75 rfl ?_
          refine j_icmp_ge C 92 dX5_lower_77 rfl h (fun c12 h => ?_) (fun c12 h => ?_)
          · refine j_mask [true, true, true, true, true, true, false] (ls' := [some (vR _), some (vR _), some (vI _), some (vI _), some (vI _), some (vI _), none]) rfl ?_
            exact X5_lower_J92_ok C hlv hr25 h
          · refine j_aload_n C dX5_lower_80 rfl ?_
            refine j_getR C dX5_lower_81 CF5 (by decide) fl_X5_23 rfl rfl h (fun t10 h => ?_)
            refine j_iload C dX5_lower_84 rfl ?_
            refine j_iald C dX5_lower_86 rfl h (fun t11 h => ?_)
            refine j_istore (ls' := [some (vR _), some (vR _), some (vI _), some (vI _), some (vI _), some (vI _), some (vI _)]) C dX5_lower_87 (by decide) rfl ?_
            refine j_iload C dX5_lower_89 rfl ?_
            refine j_istore_n (ls' := [some (vR _), some (vR _), some (vI _), some (vI _), some (vI _), some (vI _), some (vI _)]) C dX5_lower_91 (by decide) rfl ?_
            refine j_mask [true, true, true, true, true, true, false] (ls' := [some (vR _), some (vR _), some (vI _), some (vI _), some (vI _), some (vI _), none]) rfl ?_
            exact X5_lower_J92_ok C hlv hr25 h
set_option maxRecDepth 100000 in
set_option maxHeartbeats 4000000 in
theorem X5_lower_L25_ok {g : Gm} {w : Wd} (C : Cx g w RX5 cX5_lower 7 (some .int)) {lv : Nat} (hlv : 1 < lv) {N : Nat} {m : Mem} {out : Int} (f : Nat) : ∀ {l0 : Nat} {l1 : Nat} {l2 : Int} {l3 : Int} {l4 : Int} {l5 : Int}, X5_lower_L25 N m f l0 l1 l2 l3 l4 l5 = some out → Jd g w 7 (rmL lv 0 0) (Qm g w (some (vI out)) m) 25 [some (vR l0), some (vR l1), some (vI l2), some (vI l3), some (vI l4), some (vI l5), none] [] 312 m 0 0 := by
  induction f with
  | zero => intro l0 l1 l2 l3 l4 l5 h; exact none_ne (α := Int) h
  | succ f ih => intro l0 l1 l2 l3 l4 l5 h; exact X5_lower_L25_bok C hlv (fun l0 l1 l2 l3 l4 l5 h => ih h) h
set_option maxRecDepth 100000 in
set_option maxHeartbeats 4000000 in
theorem X5_lower_J20_ok {g : Gm} {w : Wd} (C : Cx g w RX5 cX5_lower 7 (some .int)) {lv : Nat} (hlv : 1 < lv) {N : Nat} {l0 : Nat} {l1 : Nat} {l2 : Int} {l3 : Int} {s0 : Int} {m : Mem} {out : Int} (h : X5_lower_J20 N l0 l1 l2 l3 s0 m = some out) : Jd g w 7 (rmL lv 0 0) (Qm g w (some (vI out)) m) 20 [some (vR l0), some (vR l1), some (vI l2), some (vI l3), none, none, none] [vI s0] 312 m 0 0 := by
  unfold X5_lower_J20 at h
  refine j_istore (ls' := [some (vR _), some (vR _), some (vI _), some (vI _), some (vI _), none, none]) C dX5_lower_20 (by decide) rfl ?_
  refine j_iconst C dX5_lower_22 rfl ?_
  refine j_istore (ls' := [some (vR _), some (vR _), some (vI _), some (vI _), some (vI _), some (vI _), none]) C dX5_lower_23 (by decide) rfl ?_
  exact X5_lower_L25_ok C hlv N h
set_option maxRecDepth 100000 in
set_option maxHeartbeats 4000000 in
theorem X5_lower_ct {N : Nat} {l0 : Nat} {l1 : Nat} {l2 : Int} {m : Mem} {out : Int} (h : X5_lower N l0 l1 l2 m = some out) : shK l0 = 5 + 10 ∧ CT yX5_lower cX5_lower 7 (some .int) 2 0 0 [vR l0, vR l1, vI l2] 312 m (some (vI out)) 312 m := by
  unfold X5_lower at h
  obtain ⟨hK, h⟩ := ite_some h
  have hlv : 1 < 2 := by decide
  refine ⟨hK, CT.of (by decide +kernel) rfl (Nat.le_of_ble_eq_true rfl) (ls := [some (vR l0), some (vR l1), some (vI l2), none, none, none, none]) rfl fun g w C _ => ?_⟩
  refine j_iconst C dX5_lower_0 rfl ?_
  refine j_istore_n (ls' := [some (vR _), some (vR _), some (vI _), some (vI _), none, none, none]) C dX5_lower_1 (by decide) rfl ?_
  refine j_aload_n C dX5_lower_2 rfl ?_
  refine j_iload_n C dX5_lower_3 rfl ?_
  obtain ⟨p1, ep1, h⟩ := bind_some h
  have qp1 := X5_isCell_ct ep1
  refine j_cVI C dX5_lower_4 vl_X5_118 CF5 rfl qp1.1 qp1.2 (by omega) rfl rfl (Nat.le_of_ble_eq_true rfl) ?_
  refine j_if_eq C 19 dX5_lower_7 rfl h (fun c19 h => ?_) (fun c19 h => ?_)
  · refine j_iconst C dX5_lower_19 rfl ?_
    exact X5_lower_J20_ok C hlv h
  · refine j_aload_n C dX5_lower_10 rfl ?_
    refine j_getR C dX5_lower_11 CF5 (by decide) fl_X5_23 rfl rfl h (fun t17 h => ?_)
    refine j_iload_n C dX5_lower_14 rfl ?_
    refine j_iald C dX5_lower_15 rfl h (fun t18 h => ?_)
    refine j_goto C 20 dX5_lower_16 rfl ?_
    exact X5_lower_J20_ok C hlv h
theorem dX3_poolOf_0 : decode cX3_poolOf 0 = .ok (.iload_n 1, 1) := by decide +kernel
theorem dX3_poolOf_1 : decode cX3_poolOf 1 = .ok (.istore_n 2, 1) := by decide +kernel
theorem dX3_poolOf_2 : decode cX3_poolOf 2 = .ok (.iconst 0, 1) := by decide +kernel
theorem dX3_poolOf_3 : decode cX3_poolOf 3 = .ok (.istore_n 3, 1) := by decide +kernel
theorem dX3_poolOf_4 : decode cX3_poolOf 4 = .ok (.iload_n 3, 1) := by decide +kernel
theorem dX3_poolOf_5 : decode cX3_poolOf 5 = .ok (.bipush 9, 2) := by decide +kernel
theorem dX3_poolOf_7 : decode cX3_poolOf 7 = .ok (.if_icmp .ge 26, 3) := by decide +kernel
theorem dX3_poolOf_10 : decode cX3_poolOf 10 = .ok (.aload_n 0, 1) := by decide +kernel
theorem dX3_poolOf_11 : decode cX3_poolOf 11 = .ok (.getfield 18, 3) := by decide +kernel
theorem dX3_poolOf_14 : decode cX3_poolOf 14 = .ok (.iload_n 2, 1) := by decide +kernel
theorem dX3_poolOf_15 : decode cX3_poolOf 15 = .ok (.iaload, 1) := by decide +kernel
theorem dX3_poolOf_16 : decode cX3_poolOf 16 = .ok (.iconst (-1), 1) := by decide +kernel
theorem dX3_poolOf_17 : decode cX3_poolOf 17 = .ok (.if_icmp .eq 16, 3) := by decide +kernel
theorem dX3_poolOf_20 : decode cX3_poolOf 20 = .ok (.aload_n 0, 1) := by decide +kernel
theorem dX3_poolOf_21 : decode cX3_poolOf 21 = .ok (.getfield 18, 3) := by decide +kernel
theorem dX3_poolOf_24 : decode cX3_poolOf 24 = .ok (.iload_n 2, 1) := by decide +kernel
theorem dX3_poolOf_25 : decode cX3_poolOf 25 = .ok (.iaload, 1) := by decide +kernel
theorem dX3_poolOf_26 : decode cX3_poolOf 26 = .ok (.istore_n 2, 1) := by decide +kernel
theorem dX3_poolOf_27 : decode cX3_poolOf 27 = .ok (.iinc 3 1, 3) := by decide +kernel
theorem dX3_poolOf_30 : decode cX3_poolOf 30 = .ok (.goto (-26), 3) := by decide +kernel
theorem dX3_poolOf_33 : decode cX3_poolOf 33 = .ok (.iload_n 2, 1) := by decide +kernel
theorem dX3_poolOf_34 : decode cX3_poolOf 34 = .ok (.ireturn, 1) := by decide +kernel
set_option maxRecDepth 100000 in
set_option maxHeartbeats 4000000 in
theorem X3_poolOf_L4_bok {g : Gm} {w : Wd} (C : Cx g w RX3 cX3_poolOf 4 (some .int)) {lv : Nat} (hlv : 0 < lv) {N : Nat} {r4 : Nat → Int → Int → Option Int} {l0 : Nat} {l2 : Int} {l3 : Int} {m : Mem} {out : Int} (hr4 : ∀ l0 l2 l3, r4 l0 l2 l3 = some out → Jd g w 4 (rmL lv 0 0) (Qm g w (some (vI out)) m) 4 [some (vR l0), none, some (vI l2), some (vI l3)] [] 312 m 0 0) (h : X3_poolOf_L4_b N m r4 l0 l2 l3 = some out) : Jd g w 4 (rmL lv 0 0) (Qm g w (some (vI out)) m) 4 [some (vR l0), none, some (vI l2), some (vI l3)] [] 312 m 0 0 := by
  unfold X3_poolOf_L4_b at h
  refine j_iload_n C dX3_poolOf_4 rfl ?_
  refine j_bipush C dX3_poolOf_5 rfl ?_
  refine j_icmp_ge C 33 dX3_poolOf_7 rfl h (fun c6 h => ?_) (fun c6 h => ?_)
  · refine j_iload_n C dX3_poolOf_33 rfl ?_
    exact j_ri C dX3_poolOf_34 rfl (Option.some.inj h).symm rfl
  · refine j_aload_n C dX3_poolOf_10 rfl ?_
    refine j_getR C dX3_poolOf_11 CF3 (by decide) fl_X3_18 rfl rfl h (fun t1 h => ?_)
    refine j_iload_n C dX3_poolOf_14 rfl ?_
    refine j_iald C dX3_poolOf_15 rfl h (fun t2 h => ?_)
    refine j_iconst C dX3_poolOf_16 rfl ?_
    refine j_icmp_eq C 33 dX3_poolOf_17 rfl h (fun c5 h => ?_) (fun c5 h => ?_)
    · refine j_iload_n C dX3_poolOf_33 rfl ?_
      exact j_ri C dX3_poolOf_34 rfl (Option.some.inj h).symm rfl
    · refine j_aload_n C dX3_poolOf_20 rfl ?_
      refine j_getR C dX3_poolOf_21 CF3 (by decide) fl_X3_18 rfl rfl h (fun t3 h => ?_)
      refine j_iload_n C dX3_poolOf_24 rfl ?_
      refine j_iald C dX3_poolOf_25 rfl h (fun t4 h => ?_)
      refine j_istore_n (ls' := [some (vR _), none, some (vI _), some (vI _)]) C dX3_poolOf_26 (by decide) rfl ?_
      refine j_iinc (ls' := [some (vR _), none, some (vI _), some (vI _)]) C dX3_poolOf_27 rfl (by decide) rfl ?_
      refine j_goto C 4 dX3_poolOf_30 rfl ?_
      exact hr4 _ _ _ h
set_option maxRecDepth 100000 in
set_option maxHeartbeats 4000000 in
theorem X3_poolOf_L4_ok {g : Gm} {w : Wd} (C : Cx g w RX3 cX3_poolOf 4 (some .int)) {lv : Nat} (hlv : 0 < lv) {N : Nat} {m : Mem} {out : Int} (f : Nat) : ∀ {l0 : Nat} {l2 : Int} {l3 : Int}, X3_poolOf_L4 N m f l0 l2 l3 = some out → Jd g w 4 (rmL lv 0 0) (Qm g w (some (vI out)) m) 4 [some (vR l0), none, some (vI l2), some (vI l3)] [] 312 m 0 0 := by
  induction f with
  | zero => intro l0 l2 l3 h; exact none_ne (α := Int) h
  | succ f ih => intro l0 l2 l3 h; exact X3_poolOf_L4_bok C hlv (fun l0 l2 l3 h => ih h) h
set_option maxRecDepth 100000 in
set_option maxHeartbeats 4000000 in
theorem X3_poolOf_ct {N : Nat} {l0 : Nat} {l1 : Int} {m : Mem} {out : Int} (h : X3_poolOf N l0 l1 m = some out) : shK l0 = 3 + 10 ∧ CT yX3_poolOf cX3_poolOf 4 (some .int) 1 0 0 [vR l0, vI l1] 312 m (some (vI out)) 312 m := by
  unfold X3_poolOf at h
  obtain ⟨hK, h⟩ := ite_some h
  have hlv : 0 < 1 := by decide
  refine ⟨hK, CT.of (by decide +kernel) rfl (Nat.le_of_ble_eq_true rfl) (ls := [some (vR l0), some (vI l1), none, none]) rfl fun g w C _ => ?_⟩
  refine j_iload_n C dX3_poolOf_0 rfl ?_
  refine j_istore_n (ls' := [some (vR _), some (vI _), some (vI _), none]) C dX3_poolOf_1 (by decide) rfl ?_
  refine j_iconst C dX3_poolOf_2 rfl ?_
  refine j_istore_n (ls' := [some (vR _), some (vI _), some (vI _), some (vI _)]) C dX3_poolOf_3 (by decide) rfl ?_
  refine j_mask [true, false, true, true] (ls' := [some (vR _), none, some (vI _), some (vI _)]) rfl ?_
  exact X3_poolOf_L4_ok C hlv N h
theorem dX3_chill_0 : decode cX3_chill 0 = .ok (.aload_n 0, 1) := by decide +kernel
theorem dX3_chill_1 : decode cX3_chill 1 = .ok (.getfield 21, 3) := by decide +kernel
theorem dX3_chill_4 : decode cX3_chill 4 = .ok (.iconst 0, 1) := by decide +kernel
theorem dX3_chill_5 : decode cX3_chill 5 = .ok (.invokestatic 59, 3) := by decide +kernel
theorem dX3_chill_8 : decode cX3_chill 8 = .ok (.iconst 0, 1) := by decide +kernel
theorem dX3_chill_9 : decode cX3_chill 9 = .ok (.istore_n 3, 1) := by decide +kernel
theorem dX3_chill_10 : decode cX3_chill 10 = .ok (.iload_n 3, 1) := by decide +kernel
theorem dX3_chill_11 : decode cX3_chill 11 = .ok (.aload_n 1, 1) := by decide +kernel
theorem dX3_chill_12 : decode cX3_chill 12 = .ok (.invokevirtual 91, 3) := by decide +kernel
theorem dX3_chill_15 : decode cX3_chill 15 = .ok (.if_icmp .ge 21, 3) := by decide +kernel
theorem dX3_chill_18 : decode cX3_chill 18 = .ok (.aload_n 0, 1) := by decide +kernel
theorem dX3_chill_19 : decode cX3_chill 19 = .ok (.getfield 18, 3) := by decide +kernel
theorem dX3_chill_22 : decode cX3_chill 22 = .ok (.iload_n 3, 1) := by decide +kernel
theorem dX3_chill_23 : decode cX3_chill 23 = .ok (.aload_n 1, 1) := by decide +kernel
theorem dX3_chill_24 : decode cX3_chill 24 = .ok (.aload_n 2, 1) := by decide +kernel
theorem dX3_chill_25 : decode cX3_chill 25 = .ok (.iload_n 3, 1) := by decide +kernel
theorem dX3_chill_26 : decode cX3_chill 26 = .ok (.invokevirtual 95, 3) := by decide +kernel
theorem dX3_chill_29 : decode cX3_chill 29 = .ok (.iastore, 1) := by decide +kernel
theorem dX3_chill_30 : decode cX3_chill 30 = .ok (.iinc 3 1, 3) := by decide +kernel
theorem dX3_chill_33 : decode cX3_chill 33 = .ok (.goto (-23), 3) := by decide +kernel
theorem dX3_chill_36 : decode cX3_chill 36 = .ok (.iconst 0, 1) := by decide +kernel
theorem dX3_chill_37 : decode cX3_chill 37 = .ok (.istore_n 3, 1) := by decide +kernel
theorem dX3_chill_38 : decode cX3_chill 38 = .ok (.iload_n 3, 1) := by decide +kernel
theorem dX3_chill_39 : decode cX3_chill 39 = .ok (.aload_n 1, 1) := by decide +kernel
theorem dX3_chill_40 : decode cX3_chill 40 = .ok (.invokevirtual 91, 3) := by decide +kernel
theorem dX3_chill_43 : decode cX3_chill 43 = .ok (.if_icmp .ge 31, 3) := by decide +kernel
theorem dX3_chill_46 : decode cX3_chill 46 = .ok (.aload_n 2, 1) := by decide +kernel
theorem dX3_chill_47 : decode cX3_chill 47 = .ok (.iload_n 3, 1) := by decide +kernel
theorem dX3_chill_48 : decode cX3_chill 48 = .ok (.invokevirtual 98, 3) := by decide +kernel
theorem dX3_chill_51 : decode cX3_chill 51 = .ok (.ifCond .ne 17, 3) := by decide +kernel
theorem dX3_chill_54 : decode cX3_chill 54 = .ok (.aload_n 0, 1) := by decide +kernel
theorem dX3_chill_55 : decode cX3_chill 55 = .ok (.getfield 21, 3) := by decide +kernel
theorem dX3_chill_58 : decode cX3_chill 58 = .ok (.aload_n 0, 1) := by decide +kernel
theorem dX3_chill_59 : decode cX3_chill 59 = .ok (.iload_n 3, 1) := by decide +kernel
theorem dX3_chill_60 : decode cX3_chill 60 = .ok (.invokevirtual 101, 3) := by decide +kernel
theorem dX3_chill_63 : decode cX3_chill 63 = .ok (.dup2, 1) := by decide +kernel
theorem dX3_chill_64 : decode cX3_chill 64 = .ok (.iaload, 1) := by decide +kernel
theorem dX3_chill_65 : decode cX3_chill 65 = .ok (.iconst 1, 1) := by decide +kernel
theorem dX3_chill_66 : decode cX3_chill 66 = .ok (.iadd, 1) := by decide +kernel
theorem dX3_chill_67 : decode cX3_chill 67 = .ok (.iastore, 1) := by decide +kernel
theorem dX3_chill_68 : decode cX3_chill 68 = .ok (.iinc 3 1, 3) := by decide +kernel
theorem dX3_chill_71 : decode cX3_chill 71 = .ok (.goto (-33), 3) := by decide +kernel
theorem dX3_chill_74 : decode cX3_chill 74 = .ok (.iconst 1, 1) := by decide +kernel
theorem dX3_chill_75 : decode cX3_chill 75 = .ok (.istore_n 3, 1) := by decide +kernel
theorem dX3_chill_76 : decode cX3_chill 76 = .ok (.iload_n 3, 1) := by decide +kernel
theorem dX3_chill_77 : decode cX3_chill 77 = .ok (.bipush 12, 2) := by decide +kernel
theorem dX3_chill_79 : decode cX3_chill 79 = .ok (.if_icmp .gt 38, 3) := by decide +kernel
theorem dX3_chill_82 : decode cX3_chill 82 = .ok (.aload_n 0, 1) := by decide +kernel
theorem dX3_chill_83 : decode cX3_chill 83 = .ok (.getfield 15, 3) := by decide +kernel
theorem dX3_chill_86 : decode cX3_chill 86 = .ok (.iload_n 3, 1) := by decide +kernel
theorem dX3_chill_87 : decode cX3_chill 87 = .ok (.aload_n 0, 1) := by decide +kernel
theorem dX3_chill_88 : decode cX3_chill 88 = .ok (.getfield 15, 3) := by decide +kernel
theorem dX3_chill_91 : decode cX3_chill 91 = .ok (.iload_n 3, 1) := by decide +kernel
theorem dX3_chill_92 : decode cX3_chill 92 = .ok (.iconst 1, 1) := by decide +kernel
theorem dX3_chill_93 : decode cX3_chill 93 = .ok (.isub, 1) := by decide +kernel
theorem dX3_chill_94 : decode cX3_chill 94 = .ok (.iaload, 1) := by decide +kernel
theorem dX3_chill_95 : decode cX3_chill 95 = .ok (.aload_n 0, 1) := by decide +kernel
theorem dX3_chill_96 : decode cX3_chill 96 = .ok (.getfield 9, 3) := by decide +kernel
theorem dX3_chill_99 : decode cX3_chill 99 = .ok (.iload_n 3, 1) := by decide +kernel
theorem dX3_chill_100 : decode cX3_chill 100 = .ok (.iaload, 1) := by decide +kernel
theorem dX3_chill_101 : decode cX3_chill 101 = .ok (.ifCond .ne 7, 3) := by decide +kernel
theorem dX3_chill_104 : decode cX3_chill 104 = .ok (.iconst 1, 1) := by decide +kernel
theorem dX3_chill_105 : decode cX3_chill 105 = .ok (.goto 4, 3) := by decide +kernel
theorem dX3_chill_108 : decode cX3_chill 108 = .ok (.iconst 0, 1) := by decide +kernel
theorem dX3_chill_109 : decode cX3_chill 109 = .ok (.iadd, 1) := by decide +kernel
theorem dX3_chill_110 : decode cX3_chill 110 = .ok (.iastore, 1) := by decide +kernel
theorem dX3_chill_111 : decode cX3_chill 111 = .ok (.iinc 3 1, 3) := by decide +kernel
theorem dX3_chill_114 : decode cX3_chill 114 = .ok (.goto (-38), 3) := by decide +kernel
theorem dX3_chill_117 : decode cX3_chill 117 = .ok (.return_, 1) := by decide +kernel
set_option maxRecDepth 100000 in
set_option maxHeartbeats 4000000 in
theorem X3_chill_L10_bok {g : Gm} {w : Wd} (C : Cx g w RX3 cX3_chill 4 none) {lv : Nat} (hlv : 2 < lv) {N : Nat} {k36 : Nat → Nat → Nat → Mem → Option Mem} {r10 : Nat → Nat → Nat → Int → Mem → Option Mem} {l0 : Nat} {l1 : Nat} {l2 : Nat} {l3 : Int} {m : Mem} {out : Mem} (hk36 : ∀ l0 l1 l2 m, k36 l0 l1 l2 m = some out → Jd g w 4 (rmL lv 0 0) (Qm g w none out) 36 [some (vR l0), some (vR l1), some (vR l2), none] [] 312 m 0 0) (hr10 : ∀ l0 l1 l2 l3 m, r10 l0 l1 l2 l3 m = some out → Jd g w 4 (rmL lv 0 0) (Qm g w none out) 10 [some (vR l0), some (vR l1), some (vR l2), some (vI l3)] [] 312 m 0 0) (h : X3_chill_L10_b N k36 r10 l0 l1 l2 l3 m = some out) : Jd g w 4 (rmL lv 0 0) (Qm g w none out) 10 [some (vR l0), some (vR l1), some (vR l2), some (vI l3)] [] 312 m 0 0 := by
  unfold X3_chill_L10_b at h
  refine j_iload_n C dX3_chill_10 rfl ?_
  refine j_aload_n C dX3_chill_11 rfl ?_
  obtain ⟨p3, ep3, h⟩ := bind_some h
  have qp3 := X5_cells_ct ep3
  refine j_cVI C dX3_chill_12 vl_X3_91 CF5 rfl qp3.1 qp3.2 (by omega) rfl rfl (Nat.le_of_ble_eq_true rfl) ?_
  refine j_icmp_ge C 36 dX3_chill_15 rfl h (fun c7 h => ?_) (fun c7 h => ?_)
  · refine j_mask [true, true, true, false] (ls' := [some (vR _), some (vR _), some (vR _), none]) rfl ?_
    exact hk36 _ _ _ _ h
  · refine j_aload_n C dX3_chill_18 rfl ?_
    refine j_getR C dX3_chill_19 CF3 (by decide) fl_X3_18 rfl rfl h (fun t4 h => ?_)
    refine j_iload_n C dX3_chill_22 rfl ?_
    refine j_aload_n C dX3_chill_23 rfl ?_
    refine j_aload_n C dX3_chill_24 rfl ?_
    refine j_iload_n C dX3_chill_25 rfl ?_
    obtain ⟨p5, ep5, h⟩ := bind_some h
    have qp5 := X5_lower_ct ep5
    refine j_cVI C dX3_chill_26 vl_X3_95 CF5 rfl qp5.1 qp5.2 (by omega) rfl rfl (Nat.le_of_ble_eq_true rfl) ?_
    refine j_iast C dX3_chill_29 rfl h (fun m6 h => ?_)
    refine j_iinc (ls' := [some (vR _), some (vR _), some (vR _), some (vI _)]) C dX3_chill_30 rfl (by decide) rfl ?_
    refine j_goto C 10 dX3_chill_33 rfl ?_
    exact hr10 _ _ _ _ _ h
set_option maxRecDepth 100000 in
set_option maxHeartbeats 4000000 in
theorem X3_chill_L10_ok {g : Gm} {w : Wd} (C : Cx g w RX3 cX3_chill 4 none) {lv : Nat} (hlv : 2 < lv) {N : Nat} {k36 : Nat → Nat → Nat → Mem → Option Mem} {out : Mem} (hk36 : ∀ l0 l1 l2 m, k36 l0 l1 l2 m = some out → Jd g w 4 (rmL lv 0 0) (Qm g w none out) 36 [some (vR l0), some (vR l1), some (vR l2), none] [] 312 m 0 0) (f : Nat) : ∀ {l0 : Nat} {l1 : Nat} {l2 : Nat} {l3 : Int} {m : Mem}, X3_chill_L10 N k36 f l0 l1 l2 l3 m = some out → Jd g w 4 (rmL lv 0 0) (Qm g w none out) 10 [some (vR l0), some (vR l1), some (vR l2), some (vI l3)] [] 312 m 0 0 := by
  induction f with
  | zero => intro l0 l1 l2 l3 m h; exact none_ne (α := Mem) h
  | succ f ih => intro l0 l1 l2 l3 m h; exact X3_chill_L10_bok C hlv hk36 (fun l0 l1 l2 l3 m h => ih h) h
set_option maxRecDepth 100000 in
set_option maxHeartbeats 4000000 in
theorem X3_chill_J68_ok {g : Gm} {w : Wd} (C : Cx g w RX3 cX3_chill 4 none) {lv : Nat} (hlv : 2 < lv) {N : Nat} {r38 : Nat → Nat → Nat → Int → Mem → Option Mem } {l0 : Nat} {l1 : Nat} {l2 : Nat} {l3 : Int} {m : Mem} {out : Mem} (hr38 : ∀ l0 l1 l2 l3 m, r38 l0 l1 l2 l3 m = some out → Jd g w 4 (rmL lv 0 0) (Qm g w none out) 38 [some (vR l0), some (vR l1), some (vR l2), some (vI l3)] [] 312 m 0 0) (h : X3_chill_J68 N r38 l0 l1 l2 l3 m = some out) : Jd g w 4 (rmL lv 0 0) (Qm g w none out) 68 [some (vR l0), some (vR l1), some (vR l2), some (vI l3)] [] 312 m 0 0 := by
  unfold X3_chill_J68 at h
  refine j_iinc (ls' := [some (vR _), some (vR _), some (vR _), some (vI _)]) C dX3_chill_68 rfl (by decide) rfl ?_
  refine j_goto C 38 dX3_chill_71 rfl ?_
  exact hr38 _ _ _ _ _ h
set_option maxRecDepth 100000 in
set_option maxHeartbeats 4000000 in
theorem X3_chill_L38_bok {g : Gm} {w : Wd} (C : Cx g w RX3 cX3_chill 4 none) {lv : Nat} (hlv : 2 < lv) {N : Nat} {k74 : Nat → Mem → Option Mem} {r38 : Nat → Nat → Nat → Int → Mem → Option Mem} {l0 : Nat} {l1 : Nat} {l2 : Nat} {l3 : Int} {m : Mem} {out : Mem} (hk74 : ∀ l0 m, k74 l0 m = some out → Jd g w 4 (rmL lv 0 0) (Qm g w none out) 74 [some (vR l0), none, none, none] [] 312 m 0 0) (hr38 : ∀ l0 l1 l2 l3 m, r38 l0 l1 l2 l3 m = some out → Jd g w 4 (rmL lv 0 0) (Qm g w none out) 38 [some (vR l0), some (vR l1), some (vR l2), some (vI l3)] [] 312 m 0 0) (h : X3_chill_L38_b N k74 r38 l0 l1 l2 l3 m = some out) : Jd g w 4 (rmL lv 0 0) (Qm g w none out) 38 [some (vR l0), some (vR l1), some (vR l2), some (vI l3)] [] 312 m 0 0 := by
  unfold X3_chill_L38_b at h
  refine j_iload_n C dX3_chill_38 rfl ?_
  refine j_aload_n C dX3_chill_39 rfl ?_
  obtain ⟨p12, ep12, h⟩ := bind_some h
  have qp12 := X5_cells_ct ep12
  refine j_cVI C dX3_chill_40 vl_X3_91 CF5 rfl qp12.1 qp12.2 (by omega) rfl rfl (Nat.le_of_ble_eq_true rfl) ?_
  refine j_icmp_ge C 74 dX3_chill_43 rfl h (fun c19 h => ?_) (fun c19 h => ?_)
  · refine j_mask [true, false, false, false] (ls' := [some (vR _), none, none, none]) rfl ?_
    exact hk74 _ _ h
  · refine j_aload_n C dX3_chill_46 rfl ?_
    refine j_iload_n C dX3_chill_47 rfl ?_
    obtain ⟨p13, ep13, h⟩ := bind_some h
    have qp13 := X1_hasWall_ct ep13
    refine j_cVI C dX3_chill_48 vl_X3_98 CF1 rfl qp13.1 qp13.2 (by omega) rfl rfl (Nat.le_of_ble_eq_true rfl) ?_
    refine j_if_ne C 68 dX3_chill_51 rfl h (fun c18 h => ?_) (fun c18 h => ?_)
    · exact X3_chill_J68_ok C hlv hr38 h
    · refine j_aload_n C dX3_chill_54 rfl ?_
      refine j_getR C dX3_chill_55 CF3 (by decide) fl_X3_21 rfl rfl h (fun t14 h => ?_)
      refine j_aload_n C dX3_chill_58 rfl ?_
      refine j_iload_n C dX3_chill_59 rfl ?_
      obtain ⟨p15, ep15, h⟩ := bind_some h
      have qp15 := X3_poolOf_ct ep15
      refine j_cVI C dX3_chill_60 vl_X3_101 CF3 rfl qp15.1 qp15.2 (by omega) rfl rfl (Nat.le_of_ble_eq_true rfl) ?_
      refine j_dup2 C dX3_chill_63 rfl rfl ?_
      refine j_iald C dX3_chill_64 rfl h (fun t16 h => ?_)
      refine j_iconst C dX3_chill_65 rfl ?_
      refine j_iadd C dX3_chill_66 ?_
      refine j_iast C dX3_chill_67 rfl h (fun m17 h => ?_)
      exact X3_chill_J68_ok C hlv hr38 h
set_option maxRecDepth 100000 in
set_option maxHeartbeats 4000000 in
theorem X3_chill_L38_ok {g : Gm} {w : Wd} (C : Cx g w RX3 cX3_chill 4 none) {lv : Nat} (hlv : 2 < lv) {N : Nat} {k74 : Nat → Mem → Option Mem} {out : Mem} (hk74 : ∀ l0 m, k74 l0 m = some out → Jd g w 4 (rmL lv 0 0) (Qm g w none out) 74 [some (vR l0), none, none, none] [] 312 m 0 0) (f : Nat) : ∀ {l0 : Nat} {l1 : Nat} {l2 : Nat} {l3 : Int} {m : Mem}, X3_chill_L38 N k74 f l0 l1 l2 l3 m = some out → Jd g w 4 (rmL lv 0 0) (Qm g w none out) 38 [some (vR l0), some (vR l1), some (vR l2), some (vI l3)] [] 312 m 0 0 := by
  induction f with
  | zero => intro l0 l1 l2 l3 m h; exact none_ne (α := Mem) h
  | succ f ih => intro l0 l1 l2 l3 m h; exact X3_chill_L38_bok C hlv hk74 (fun l0 l1 l2 l3 m h => ih h) h
set_option maxRecDepth 100000 in
set_option maxHeartbeats 4000000 in
theorem X3_chill_J109_ok {g : Gm} {w : Wd} (C : Cx g w RX3 cX3_chill 4 none) {lv : Nat} (hlv : 2 < lv) {N : Nat} {r76 : Nat → Int → Mem → Option Mem } {l0 : Nat} {l3 : Int} {s0 : Nat} {s1 : Int} {s2 : Int} {s3 : Int} {m : Mem} {out : Mem} (hr76 : ∀ l0 l3 m, r76 l0 l3 m = some out → Jd g w 4 (rmL lv 0 0) (Qm g w none out) 76 [some (vR l0), none, none, some (vI l3)] [] 312 m 0 0) (h : X3_chill_J109 N r76 l0 l3 s0 s1 s2 s3 m = some out) : Jd g w 4 (rmL lv 0 0) (Qm g w none out) 109 [some (vR l0), none, none, some (vI l3)] [vI s3, vI s2, vI s1, vR s0] 312 m 0 0 := by
  unfold X3_chill_J109 at h
  refine j_iadd C dX3_chill_109 ?_
  refine j_iast C dX3_chill_110 rfl h (fun m27 h => ?_)
  refine j_iinc (ls' := [some (vR _), none, none, some (vI _)]) C dX3_chill_111 rfl (by decide) rfl ?_
  refine j_goto C 76 dX3_chill_114 rfl ?_
  exact hr76 _ _ _ h
set_option maxRecDepth 100000 in
set_option maxHeartbeats 4000000 in
theorem X3_chill_L76_bok {g : Gm} {w : Wd} (C : Cx g w RX3 cX3_chill 4 none) {lv : Nat} (hlv : 2 < lv) {N : Nat} {r76 : Nat → Int → Mem → Option Mem} {l0 : Nat} {l3 : Int} {m : Mem} {out : Mem} (hr76 : ∀ l0 l3 m, r76 l0 l3 m = some out → Jd g w 4 (rmL lv 0 0) (Qm g w none out) 76 [some (vR l0), none, none, some (vI l3)] [] 312 m 0 0) (h : X3_chill_L76_b N r76 l0 l3 m = some out) : Jd g w 4 (rmL lv 0 0) (Qm g w none out) 76 [some (vR l0), none, none, some (vI l3)] [] 312 m 0 0 := by
  unfold X3_chill_L76_b at h
  refine j_iload_n C dX3_chill_76 rfl ?_
  refine j_bipush C dX3_chill_77 rfl ?_
  refine j_icmp_gt C 117 dX3_chill_79 rfl h (fun c29 h => ?_) (fun c29 h => ?_)
  · have e := Option.some.inj h
    subst e
    exact j_rv C dX3_chill_117 rfl rfl
  · refine j_aload_n C dX3_chill_82 rfl ?_
    refine j_getR C dX3_chill_83 CF3 (by decide) fl_X3_15 rfl rfl h (fun t22 h => ?_)
    refine j_iload_n C dX3_chill_86 rfl ?_
    refine j_aload_n C dX3_chill_87 rfl ?_
    refine j_getR C dX3_chill_88 CF3 (by decide) fl_X3_15 rfl rfl h (fun t23 h => ?_)
    refine j_iload_n C dX3_chill_91 rfl ?_
    refine j_iconst C dX3_chill_92 rfl ?_
    refine j_isub C dX3_chill_93 ?_
    refine j_iald C dX3_chill_94 rfl h (fun t24 h => ?_)
    refine j_aload_n C dX3_chill_95 rfl ?_
    refine j_getR C dX3_chill_96 CF3 (by decide) fl_X3_9 rfl rfl h (fun t25 h => ?_)
    refine j_iload_n C dX3_chill_99 rfl ?_
    refine j_iald C dX3_chill_100 rfl h (fun t26 h => ?_)
    refine j_if_ne C 108 dX3_chill_101 rfl h (fun c28 h => ?_) (fun c28 h => ?_)
    · refine j_iconst C dX3_chill_108 rfl ?_
      exact X3_chill_J109_ok C hlv hr76 h
    · refine j_iconst C dX3_chill_104 rfl ?_
      refine j_goto C 109 dX3_chill_105 rfl ?_
      exact X3_chill_J109_ok C hlv hr76 h
set_option maxRecDepth 100000 in
set_option maxHeartbeats 4000000 in
theorem X3_chill_L76_ok {g : Gm} {w : Wd} (C : Cx g w RX3 cX3_chill 4 none) {lv : Nat} (hlv : 2 < lv) {N : Nat} {out : Mem} (f : Nat) : ∀ {l0 : Nat} {l3 : Int} {m : Mem}, X3_chill_L76 N f l0 l3 m = some out → Jd g w 4 (rmL lv 0 0) (Qm g w none out) 76 [some (vR l0), none, none, some (vI l3)] [] 312 m 0 0 := by
  induction f with
  | zero => intro l0 l3 m h; exact none_ne (α := Mem) h
  | succ f ih => intro l0 l3 m h; exact X3_chill_L76_bok C hlv (fun l0 l3 m h => ih h) h
set_option maxRecDepth 100000 in
set_option maxHeartbeats 4000000 in
theorem X3_chill_ct {N : Nat} {l0 : Nat} {l1 : Nat} {l2 : Nat} {m : Mem} {out : Mem} (h : X3_chill N l0 l1 l2 m = some out) : shK l0 = 3 + 10 ∧ CT yX3_chill cX3_chill 4 none 3 0 0 [vR l0, vR l1, vR l2] 312 m none 312 out := by
  unfold X3_chill at h
  obtain ⟨hK, h⟩ := ite_some h
  have hlv : 2 < 3 := by decide
  refine ⟨hK, CT.of (by decide +kernel) rfl (Nat.le_of_ble_eq_true rfl) (ls := [some (vR l0), some (vR l1), some (vR l2), none]) rfl fun g w C _ => ?_⟩
  refine j_aload_n C dX3_chill_0 rfl ?_
  refine j_getR C dX3_chill_1 CF3 (by decide) fl_X3_21 rfl rfl h (fun t1 h => ?_)
  refine j_iconst C dX3_chill_4 rfl ?_
  obtain ⟨p2, ep2, h⟩ := bind_some h
  have qp2 := J7_fill_53178_ct ep2
  refine j_cSV C dX3_chill_5 sl_X3_59 qp2 (by omega) rfl rfl (Nat.le_of_ble_eq_true rfl) ?_
  refine j_iconst C dX3_chill_8 rfl ?_
  refine j_istore_n (ls' := [some (vR _), some (vR _), some (vR _), some (vI _)]) C dX3_chill_9 (by decide) rfl ?_
  refine X3_chill_L10_ok C hlv (fun z8 z9 z10 m11 h => ?_) N h
  refine j_iconst C dX3_chill_36 rfl ?_
  refine j_istore_n (ls' := [some (vR _), some (vR _), some (vR _), some (vI _)]) C dX3_chill_37 (by decide) rfl ?_
  refine X3_chill_L38_ok C hlv (fun z20 m21 h => ?_) N h
  refine j_iconst C dX3_chill_74 rfl ?_
  refine j_istore_n (ls' := [some (vR _), none, none, some (vI _)]) C dX3_chill_75 (by decide) rfl ?_
  exact X3_chill_L76_ok C hlv N h
theorem dX5_openness_0 : decode cX5_openness 0 = .ok (.bipush 8, 2) := by decide +kernel
theorem dX5_openness_2 : decode cX5_openness 2 = .ok (.istore_n 3, 1) := by decide +kernel
theorem dX5_openness_3 : decode cX5_openness 3 = .ok (.iconst 0, 1) := by decide +kernel
theorem dX5_openness_4 : decode cX5_openness 4 = .ok (.istore 4, 2) := by decide +kernel
theorem dX5_openness_6 : decode cX5_openness 6 = .ok (.iload 4, 2) := by decide +kernel
theorem dX5_openness_8 : decode cX5_openness 8 = .ok (.bipush 8, 2) := by decide +kernel
theorem dX5_openness_10 : decode cX5_openness 10 = .ok (.if_icmp .ge 36, 3) := by decide +kernel
theorem dX5_openness_13 : decode cX5_openness 13 = .ok (.aload_n 0, 1) := by decide +kernel
theorem dX5_openness_14 : decode cX5_openness 14 = .ok (.iload_n 2, 1) := by decide +kernel
theorem dX5_openness_15 : decode cX5_openness 15 = .ok (.invokevirtual 118, 3) := by decide +kernel
theorem dX5_openness_18 : decode cX5_openness 18 = .ok (.ifCond .eq 28, 3) := by decide +kernel
theorem dX5_openness_21 : decode cX5_openness 21 = .ok (.aload_n 1, 1) := by decide +kernel
theorem dX5_openness_22 : decode cX5_openness 22 = .ok (.aload_n 0, 1) := by decide +kernel
theorem dX5_openness_23 : decode cX5_openness 23 = .ok (.getfield 20, 3) := by decide +kernel
theorem dX5_openness_26 : decode cX5_openness 26 = .ok (.iload 4, 2) := by decide +kernel
theorem dX5_openness_28 : decode cX5_openness 28 = .ok (.aaload, 1) := by decide +kernel
theorem dX5_openness_29 : decode cX5_openness 29 = .ok (.iload_n 2, 1) := by decide +kernel
theorem dX5_openness_30 : decode cX5_openness 30 = .ok (.iaload, 1) := by decide +kernel
theorem dX5_openness_31 : decode cX5_openness 31 = .ok (.invokevirtual 125, 3) := by decide +kernel
theorem dX5_openness_34 : decode cX5_openness 34 = .ok (.ifCond .eq 6, 3) := by decide +kernel
theorem dX5_openness_37 : decode cX5_openness 37 = .ok (.iinc 3 (-1), 3) := by decide +kernel
theorem dX5_openness_40 : decode cX5_openness 40 = .ok (.iinc 4 1, 3) := by decide +kernel
theorem dX5_openness_43 : decode cX5_openness 43 = .ok (.goto (-37), 3) := by decide +kernel
theorem dX5_openness_46 : decode cX5_openness 46 = .ok (.iload_n 3, 1) := by decide +kernel
theorem dX5_openness_47 : decode cX5_openness 47 = .ok (.ireturn, 1) := by decide +kernel
set_option maxRecDepth 100000 in
set_option maxHeartbeats 4000000 in
theorem X5_openness_J40_ok {g : Gm} {w : Wd} (C : Cx g w RX5 cX5_openness 5 (some .int)) {lv : Nat} (hlv : 1 < lv) {N : Nat} {r6 : Nat → Nat → Int → Int → Int → Option Int } {l0 : Nat} {l1 : Nat} {l2 : Int} {l3 : Int} {l4 : Int} {m : Mem} {out : Int} (hr6 : ∀ l0 l1 l2 l3 l4, r6 l0 l1 l2 l3 l4 = some out → Jd g w 5 (rmL lv 0 0) (Qm g w (some (vI out)) m) 6 [some (vR l0), some (vR l1), some (vI l2), some (vI l3), some (vI l4)] [] 312 m 0 0) (h : X5_openness_J40 N r6 l0 l1 l2 l3 l4 m = some out) : Jd g w 5 (rmL lv 0 0) (Qm g w (some (vI out)) m) 40 [some (vR l0), some (vR l1), some (vI l2), some (vI l3), some (vI l4)] [] 312 m 0 0 := by
  unfold X5_openness_J40 at h
  refine j_iinc (ls' := [some (vR _), some (vR _), some (vI _), some (vI _), some (vI _)]) C dX5_openness_40 rfl (by decide) rfl ?_
  refine j_goto C 6 dX5_openness_43 rfl ?_
  exact hr6 _ _ _ _ _ h
set_option maxRecDepth 100000 in
set_option maxHeartbeats 4000000 in
theorem X5_openness_L6_bok {g : Gm} {w : Wd} (C : Cx g w RX5 cX5_openness 5 (some .int)) {lv : Nat} (hlv : 1 < lv) {N : Nat} {r6 : Nat → Nat → Int → Int → Int → Option Int} {l0 : Nat} {l1 : Nat} {l2 : Int} {l3 : Int} {l4 : Int} {m : Mem} {out : Int} (hr6 : ∀ l0 l1 l2 l3 l4, r6 l0 l1 l2 l3 l4 = some out → Jd g w 5 (rmL lv 0 0) (Qm g w (some (vI out)) m) 6 [some (vR l0), some (vR l1), some (vI l2), some (vI l3), some (vI l4)] [] 312 m 0 0) (h : X5_openness_L6_b N m r6 l0 l1 l2 l3 l4 = some out) : Jd g w 5 (rmL lv 0 0) (Qm g w (some (vI out)) m) 6 [some (vR l0), some (vR l1), some (vI l2), some (vI l3), some (vI l4)] [] 312 m 0 0 := by
  unfold X5_openness_L6_b at h
  refine j_iload C dX5_openness_6 rfl ?_
  refine j_bipush C dX5_openness_8 rfl ?_
  refine j_icmp_ge C 46 dX5_openness_10 rfl h (fun c8 h => ?_) (fun c8 h => ?_)
  · refine j_iload_n C dX5_openness_46 rfl ?_
    exact j_ri C dX5_openness_47 rfl (Option.some.inj h).symm rfl
  · refine j_aload_n C dX5_openness_13 rfl ?_
    refine j_iload_n C dX5_openness_14 rfl ?_
    obtain ⟨p1, ep1, h⟩ := bind_some h
    have qp1 := X5_isCell_ct ep1
    refine j_cVI C dX5_openness_15 vl_X5_118 CF5 rfl qp1.1 qp1.2 (by omega) rfl rfl (Nat.le_of_ble_eq_true rfl) ?_
    refine j_if_eq C 46 dX5_openness_18 rfl h (fun c7 h => ?_) (fun c7 h => ?_)
    · refine j_iload_n C dX5_openness_46 rfl ?_
      exact j_ri C dX5_openness_47 rfl (Option.some.inj h).symm rfl
    · refine j_aload_n C dX5_openness_21 rfl ?_
      refine j_aload_n C dX5_openness_22 rfl ?_
      refine j_getR C dX5_openness_23 CF5 (by decide) fl_X5_20 rfl rfl h (fun t2 h => ?_)
      refine j_iload C dX5_openness_26 rfl ?_
      refine j_aald C dX5_openness_28 rfl h (fun t3 h => ?_)
      refine j_iload_n C dX5_openness_29 rfl ?_
      refine j_iald C dX5_openness_30 rfl h (fun t4 h => ?_)
      obtain ⟨p5, ep5, h⟩ := bind_some h
      have qp5 := X1_hasWall_ct ep5
      refine j_cVI C dX5_openness_31 vl_X5_125 CF1 rfl qp5.1 qp5.2 (by omega) rfl rfl (Nat.le_of_ble_eq_true rfl) ?_
      refine j_if_eq C 40 dX5_openness_34 rfl h (fun c6 h => ?_) (fun c6 h => ?_)
      · exact X5_openness_J40_ok C hlv hr6 h
      · refine j_iinc (ls' := [some (vR _), some (vR _), some (vI _), some (vI _), some (vI _)]) C dX5_openness_37 rfl (by decide) rfl ?_
        exact X5_openness_J40_ok C hlv hr6 h
set_option maxRecDepth 100000 in
set_option maxHeartbeats 4000000 in
theorem X5_openness_L6_ok {g : Gm} {w : Wd} (C : Cx g w RX5 cX5_openness 5 (some .int)) {lv : Nat} (hlv : 1 < lv) {N : Nat} {m : Mem} {out : Int} (f : Nat) : ∀ {l0 : Nat} {l1 : Nat} {l2 : Int} {l3 : Int} {l4 : Int}, X5_openness_L6 N m f l0 l1 l2 l3 l4 = some out → Jd g w 5 (rmL lv 0 0) (Qm g w (some (vI out)) m) 6 [some (vR l0), some (vR l1), some (vI l2), some (vI l3), some (vI l4)] [] 312 m 0 0 := by
  induction f with
  | zero => intro l0 l1 l2 l3 l4 h; exact none_ne (α := Int) h
  | succ f ih => intro l0 l1 l2 l3 l4 h; exact X5_openness_L6_bok C hlv (fun l0 l1 l2 l3 l4 h => ih h) h
set_option maxRecDepth 100000 in
set_option maxHeartbeats 4000000 in
theorem X5_openness_ct {N : Nat} {l0 : Nat} {l1 : Nat} {l2 : Int} {m : Mem} {out : Int} (h : X5_openness N l0 l1 l2 m = some out) : shK l0 = 5 + 10 ∧ CT yX5_openness cX5_openness 5 (some .int) 2 0 0 [vR l0, vR l1, vI l2] 312 m (some (vI out)) 312 m := by
  unfold X5_openness at h
  obtain ⟨hK, h⟩ := ite_some h
  have hlv : 1 < 2 := by decide
  refine ⟨hK, CT.of (by decide +kernel) rfl (Nat.le_of_ble_eq_true rfl) (ls := [some (vR l0), some (vR l1), some (vI l2), none, none]) rfl fun g w C _ => ?_⟩
  refine j_bipush C dX5_openness_0 rfl ?_
  refine j_istore_n (ls' := [some (vR _), some (vR _), some (vI _), some (vI _), none]) C dX5_openness_2 (by decide) rfl ?_
  refine j_iconst C dX5_openness_3 rfl ?_
  refine j_istore (ls' := [some (vR _), some (vR _), some (vI _), some (vI _), some (vI _)]) C dX5_openness_4 (by decide) rfl ?_
  exact X5_openness_L6_ok C hlv N h
theorem dX5_housesBy_0 : decode cX5_housesBy 0 = .ok (.iconst 0, 1) := by decide +kernel
theorem dX5_housesBy_1 : decode cX5_housesBy 1 = .ok (.istore_n 2, 1) := by decide +kernel
theorem dX5_housesBy_2 : decode cX5_housesBy 2 = .ok (.iconst 0, 1) := by decide +kernel
theorem dX5_housesBy_3 : decode cX5_housesBy 3 = .ok (.istore_n 3, 1) := by decide +kernel
theorem dX5_housesBy_4 : decode cX5_housesBy 4 = .ok (.iload_n 3, 1) := by decide +kernel
theorem dX5_housesBy_5 : decode cX5_housesBy 5 = .ok (.iconst 4, 1) := by decide +kernel
theorem dX5_housesBy_6 : decode cX5_housesBy 6 = .ok (.if_icmp .ge 50, 3) := by decide +kernel
theorem dX5_housesBy_9 : decode cX5_housesBy 9 = .ok (.aload_n 0, 1) := by decide +kernel
theorem dX5_housesBy_10 : decode cX5_housesBy 10 = .ok (.iload_n 1, 1) := by decide +kernel
theorem dX5_housesBy_11 : decode cX5_housesBy 11 = .ok (.invokevirtual 118, 3) := by decide +kernel
theorem dX5_housesBy_14 : decode cX5_housesBy 14 = .ok (.ifCond .eq 42, 3) := by decide +kernel
theorem dX5_housesBy_17 : decode cX5_housesBy 17 = .ok (.aload_n 0, 1) := by decide +kernel
theorem dX5_housesBy_18 : decode cX5_housesBy 18 = .ok (.getfield 20, 3) := by decide +kernel
theorem dX5_housesBy_21 : decode cX5_housesBy 21 = .ok (.iload_n 3, 1) := by decide +kernel
theorem dX5_housesBy_22 : decode cX5_housesBy 22 = .ok (.aaload, 1) := by decide +kernel
theorem dX5_housesBy_23 : decode cX5_housesBy 23 = .ok (.iload_n 1, 1) := by decide +kernel
theorem dX5_housesBy_24 : decode cX5_housesBy 24 = .ok (.iaload, 1) := by decide +kernel
theorem dX5_housesBy_25 : decode cX5_housesBy 25 = .ok (.istore 4, 2) := by decide +kernel
theorem dX5_housesBy_27 : decode cX5_housesBy 27 = .ok (.iload_n 2, 1) := by decide +kernel
theorem dX5_housesBy_28 : decode cX5_housesBy 28 = .ok (.aload_n 0, 1) := by decide +kernel
theorem dX5_housesBy_29 : decode cX5_housesBy 29 = .ok (.iload 4, 2) := by decide +kernel
theorem dX5_housesBy_31 : decode cX5_housesBy 31 = .ok (.invokevirtual 118, 3) := by decide +kernel
theorem dX5_housesBy_34 : decode cX5_housesBy 34 = .ok (.ifCond .eq 13, 3) := by decide +kernel
theorem dX5_housesBy_37 : decode cX5_housesBy 37 = .ok (.aload_n 0, 1) := by decide +kernel
theorem dX5_housesBy_38 : decode cX5_housesBy 38 = .ok (.getfield 27, 3) := by decide +kernel
theorem dX5_housesBy_41 : decode cX5_housesBy 41 = .ok (.iload 4, 2) := by decide +kernel
theorem dX5_housesBy_43 : decode cX5_housesBy 43 = .ok (.iaload, 1) := by decide +kernel
theorem dX5_housesBy_44 : decode cX5_housesBy 44 = .ok (.goto 4, 3) := by decide +kernel
theorem dX5_housesBy_47 : decode cX5_housesBy 47 = .ok (.iconst 0, 1) := by decide +kernel
theorem dX5_housesBy_48 : decode cX5_housesBy 48 = .ok (.iadd, 1) := by decide +kernel
theorem dX5_housesBy_49 : decode cX5_housesBy 49 = .ok (.istore_n 2, 1) := by decide +kernel
theorem dX5_housesBy_50 : decode cX5_housesBy 50 = .ok (.iinc 3 1, 3) := by decide +kernel
theorem dX5_housesBy_53 : decode cX5_housesBy 53 = .ok (.goto (-49), 3) := by decide +kernel
theorem dX5_housesBy_56 : decode cX5_housesBy 56 = .ok (.iload_n 2, 1) := by decide +kernel
theorem dX5_housesBy_57 : decode cX5_housesBy 57 = .ok (.ireturn, 1) := by decide +kernel
set_option maxRecDepth 100000 in
set_option maxHeartbeats 4000000 in
theorem X5_housesBy_J48_ok {g : Gm} {w : Wd} (C : Cx g w RX5 cX5_housesBy 5 (some .int)) {lv : Nat} (hlv : 1 < lv) {N : Nat} {r4 : Nat → Int → Int → Int → Option Int } {l0 : Nat} {l1 : Int} {l3 : Int} {s0 : Int} {s1 : Int} {m : Mem} {out : Int} (hr4 : ∀ l0 l1 l2 l3, r4 l0 l1 l2 l3 = some out → Jd g w 5 (rmL lv 0 0) (Qm g w (some (vI out)) m) 4 [some (vR l0), some (vI l1), some (vI l2), some (vI l3), none] [] 312 m 0 0) (h : X5_housesBy_J48 N r4 l0 l1 l3 s0 s1 m = some out) : Jd g w 5 (rmL lv 0 0) (Qm g w (some (vI out)) m) 48 [some (vR l0), some (vI l1), none, some (vI l3), none] [vI s1, vI s0] 312 m 0 0 := by
  unfold X5_housesBy_J48 at h
  refine j_iadd C dX5_housesBy_48 ?_
  refine j_istore_n (ls' := [some (vR _), some (vI _), some (vI _), some (vI _), none]) C dX5_housesBy_49 (by decide) rfl ?_
  refine j_iinc (ls' := [some (vR _), some (vI _), some (vI _), some (vI _), none]) C dX5_housesBy_50 rfl (by decide) rfl ?_
  refine j_goto C 4 dX5_housesBy_53 rfl ?_
  exact hr4 _ _ _ _ h
set_option maxRecDepth 100000 in
set_option maxHeartbeats 4000000 in
theorem X5_housesBy_L4_bok {g : Gm} {w : Wd} (C : Cx g w RX5 cX5_housesBy 5 (some .int)) {lv : Nat} (hlv : 1 < lv) {N : Nat} {r4 : Nat → Int → Int → Int → Option Int} {l0 : Nat} {l1 : Int} {l2 : Int} {l3 : Int} {m : Mem} {out : Int} (hr4 : ∀ l0 l1 l2 l3, r4 l0 l1 l2 l3 = some out → Jd g w 5 (rmL lv 0 0) (Qm g w (some (vI out)) m) 4 [some (vR l0), some (vI l1), some (vI l2), some (vI l3), none] [] 312 m 0 0) (h : X5_housesBy_L4_b N m r4 l0 l1 l2 l3 = some out) : Jd g w 5 (rmL lv 0 0) (Qm g w (some (vI out)) m) 4 [some (vR l0), some (vI l1), some (vI l2), some (vI l3), none] [] 312 m 0 0 := by
  unfold X5_housesBy_L4_b at h
  refine j_iload_n C dX5_housesBy_4 rfl ?_
  refine j_iconst C dX5_housesBy_5 rfl ?_
  refine j_icmp_ge C 56 dX5_housesBy_6 rfl h (fun c10 h => ?_) (fun c10 h => ?_)
  · refine j_iload_n C dX5_housesBy_56 rfl ?_
    exact j_ri C dX5_housesBy_57 rfl (Option.some.inj h).symm rfl
  · refine j_aload_n C dX5_housesBy_9 rfl ?_
    refine j_iload_n C dX5_housesBy_10 rfl ?_
    obtain ⟨p1, ep1, h⟩ := bind_some h
    have qp1 := X5_isCell_ct ep1
    refine j_cVI C dX5_housesBy_11 vl_X5_118 CF5 rfl qp1.1 qp1.2 (by omega) rfl rfl (Nat.le_of_ble_eq_true rfl) ?_
    refine j_if_eq C 56 dX5_housesBy_14 rfl h (fun c9 h => ?_) (fun c9 h => ?_)
    · refine j_iload_n C dX5_housesBy_56 rfl ?_
      exact j_ri C dX5_housesBy_57 rfl (Option.some.inj h).symm rfl
    · refine j_aload_n C dX5_housesBy_17 rfl ?_
      refine j_getR C dX5_housesBy_18 CF5 (by decide) fl_X5_20 rfl rfl h (fun t2 h => ?_)
      refine j_iload_n C dX5_housesBy_21 rfl ?_
      refine j_aald C dX5_housesBy_22 rfl h (fun t3 h => ?_)
      refine j_iload_n C dX5_housesBy_23 rfl ?_
      refine j_iald C dX5_housesBy_24 rfl h (fun t4 h => ?_)
      refine j_istore (ls' := [some (vR _), some (vI _), some (vI _), some (vI _), some (vI _)]) C dX5_housesBy_25 (by decide) rfl ?_
      refine j_iload_n C dX5_housesBy_27 rfl ?_
      refine j_aload_n C dX5_housesBy_28 rfl ?_
      refine j_iload C dX5_housesBy_29 rfl ?_
      obtain ⟨p5, ep5, h⟩ := bind_some h
      have qp5 := X5_isCell_ct ep5
      refine j_cVI C dX5_housesBy_31 vl_X5_118 CF5 rfl qp5.1 qp5.2 (by omega) rfl rfl (Nat.le_of_ble_eq_true rfl) ?_
      refine j_if_eq C 47 dX5_housesBy_34 rfl h (fun c8 h => ?_) (fun c8 h => ?_)
      · refine j_iconst C dX5_housesBy_47 rfl ?_
        refine j_mask [true, true, false, true, false] (ls' := [some (vR _), some (vI _), none, some (vI _), none]) rfl ?_
        exact X5_housesBy_J48_ok C hlv hr4 h
      · refine j_aload_n C dX5_housesBy_37 rfl ?_
        refine j_getR C dX5_housesBy_38 CF5 (by decide) fl_X5_27 rfl rfl h (fun t6 h => ?_)
        refine j_iload C dX5_housesBy_41 rfl ?_
        refine j_iald C dX5_housesBy_43 rfl h (fun t7 h => ?_)
        refine j_goto C 48 dX5_housesBy_44 rfl ?_
        refine j_mask [true, true, false, true, false] (ls' := [some (vR _), some (vI _), none, some (vI _), none]) rfl ?_
        exact X5_housesBy_J48_ok C hlv hr4 h
set_option maxRecDepth 100000 in
set_option maxHeartbeats 4000000 in
theorem X5_housesBy_L4_ok {g : Gm} {w : Wd} (C : Cx g w RX5 cX5_housesBy 5 (some .int)) {lv : Nat} (hlv : 1 < lv) {N : Nat} {m : Mem} {out : Int} (f : Nat) : ∀ {l0 : Nat} {l1 : Int} {l2 : Int} {l3 : Int}, X5_housesBy_L4 N m f l0 l1 l2 l3 = some out → Jd g w 5 (rmL lv 0 0) (Qm g w (some (vI out)) m) 4 [some (vR l0), some (vI l1), some (vI l2), some (vI l3), none] [] 312 m 0 0 := by
  induction f with
  | zero => intro l0 l1 l2 l3 h; exact none_ne (α := Int) h
  | succ f ih => intro l0 l1 l2 l3 h; exact X5_housesBy_L4_bok C hlv (fun l0 l1 l2 l3 h => ih h) h
set_option maxRecDepth 100000 in
set_option maxHeartbeats 4000000 in
theorem X5_housesBy_ct {N : Nat} {l0 : Nat} {l1 : Int} {m : Mem} {out : Int} (h : X5_housesBy N l0 l1 m = some out) : shK l0 = 5 + 10 ∧ CT yX5_housesBy cX5_housesBy 5 (some .int) 2 0 0 [vR l0, vI l1] 312 m (some (vI out)) 312 m := by
  unfold X5_housesBy at h
  obtain ⟨hK, h⟩ := ite_some h
  have hlv : 1 < 2 := by decide
  refine ⟨hK, CT.of (by decide +kernel) rfl (Nat.le_of_ble_eq_true rfl) (ls := [some (vR l0), some (vI l1), none, none, none]) rfl fun g w C _ => ?_⟩
  refine j_iconst C dX5_housesBy_0 rfl ?_
  refine j_istore_n (ls' := [some (vR _), some (vI _), some (vI _), none, none]) C dX5_housesBy_1 (by decide) rfl ?_
  refine j_iconst C dX5_housesBy_2 rfl ?_
  refine j_istore_n (ls' := [some (vR _), some (vI _), some (vI _), some (vI _), none]) C dX5_housesBy_3 (by decide) rfl ?_
  exact X5_housesBy_L4_ok C hlv N h
theorem dX3_coldIn_0 : decode cX3_coldIn 0 = .ok (.iload_n 1, 1) := by decide +kernel
theorem dX3_coldIn_1 : decode cX3_coldIn 1 = .ok (.ifCond .lt 23, 3) := by decide +kernel
theorem dX3_coldIn_4 : decode cX3_coldIn 4 = .ok (.iload_n 1, 1) := by decide +kernel
theorem dX3_coldIn_5 : decode cX3_coldIn 5 = .ok (.bipush 42, 2) := by decide +kernel
theorem dX3_coldIn_7 : decode cX3_coldIn 7 = .ok (.if_icmp .ge 17, 3) := by decide +kernel
theorem dX3_coldIn_10 : decode cX3_coldIn 10 = .ok (.iload_n 2, 1) := by decide +kernel
theorem dX3_coldIn_11 : decode cX3_coldIn 11 = .ok (.ifCond .lt 13, 3) := by decide +kernel
theorem dX3_coldIn_14 : decode cX3_coldIn 14 = .ok (.iload_n 2, 1) := by decide +kernel
theorem dX3_coldIn_15 : decode cX3_coldIn 15 = .ok (.bipush 12, 2) := by decide +kernel
theorem dX3_coldIn_17 : decode cX3_coldIn 17 = .ok (.if_icmp .gt 7, 3) := by decide +kernel
theorem dX3_coldIn_20 : decode cX3_coldIn 20 = .ok (.iconst 1, 1) := by decide +kernel
theorem dX3_coldIn_21 : decode cX3_coldIn 21 = .ok (.goto 4, 3) := by decide +kernel
theorem dX3_coldIn_24 : decode cX3_coldIn 24 = .ok (.iconst 0, 1) := by decide +kernel
theorem dX3_coldIn_25 : decode cX3_coldIn 25 = .ok (.istore_n 3, 1) := by decide +kernel
theorem dX3_coldIn_26 : decode cX3_coldIn 26 = .ok (.iload_n 3, 1) := by decide +kernel
theorem dX3_coldIn_27 : decode cX3_coldIn 27 = .ok (.ifCond .eq 19, 3) := by decide +kernel
theorem dX3_coldIn_30 : decode cX3_coldIn 30 = .ok (.aload_n 0, 1) := by decide +kernel
theorem dX3_coldIn_31 : decode cX3_coldIn 31 = .ok (.getfield 21, 3) := by decide +kernel
theorem dX3_coldIn_34 : decode cX3_coldIn 34 = .ok (.iload_n 1, 1) := by decide +kernel
theorem dX3_coldIn_35 : decode cX3_coldIn 35 = .ok (.iaload, 1) := by decide +kernel
theorem dX3_coldIn_36 : decode cX3_coldIn 36 = .ok (.aload_n 0, 1) := by decide +kernel
theorem dX3_coldIn_37 : decode cX3_coldIn 37 = .ok (.getfield 15, 3) := by decide +kernel
theorem dX3_coldIn_40 : decode cX3_coldIn 40 = .ok (.iload_n 2, 1) := by decide +kernel
theorem dX3_coldIn_41 : decode cX3_coldIn 41 = .ok (.iaload, 1) := by decide +kernel
theorem dX3_coldIn_42 : decode cX3_coldIn 42 = .ok (.imul, 1) := by decide +kernel
theorem dX3_coldIn_43 : decode cX3_coldIn 43 = .ok (.goto 4, 3) := by decide +kernel
theorem dX3_coldIn_46 : decode cX3_coldIn 46 = .ok (.iconst 0, 1) := by decide +kernel
theorem dX3_coldIn_47 : decode cX3_coldIn 47 = .ok (.ireturn, 1) := by decide +kernel
set_option maxRecDepth 100000 in
set_option maxHeartbeats 4000000 in
theorem X3_coldIn_J25_ok {g : Gm} {w : Wd} (C : Cx g w RX3 cX3_coldIn 4 (some .int)) {lv : Nat} (hlv : 0 < lv) {l0 : Nat} {l1 : Int} {l2 : Int} {s0 : Int} {m : Mem} {out : Int} (h : X3_coldIn_J25 l0 l1 l2 s0 m = some out) : Jd g w 4 (rmL lv 0 0) (Qm g w (some (vI out)) m) 25 [some (vR l0), some (vI l1), some (vI l2), none] [vI s0] 312 m 0 0 := by
  unfold X3_coldIn_J25 at h
  refine j_istore_n (ls' := [some (vR _), some (vI _), some (vI _), some (vI _)]) C dX3_coldIn_25 (by decide) rfl ?_
  refine j_iload_n C dX3_coldIn_26 rfl ?_
  refine j_if_eq C 46 dX3_coldIn_27 rfl h (fun c5 h => ?_) (fun c5 h => ?_)
  · refine j_iconst C dX3_coldIn_46 rfl ?_
    exact j_ri C dX3_coldIn_47 rfl (Option.some.inj h).symm rfl
  · refine j_aload_n C dX3_coldIn_30 rfl ?_
    refine j_getR C dX3_coldIn_31 CF3 (by decide) fl_X3_21 rfl rfl h (fun t1 h => ?_)
    refine j_iload_n C dX3_coldIn_34 rfl ?_
    refine j_iald C dX3_coldIn_35 rfl h (fun t2 h => ?_)
    refine j_aload_n C dX3_coldIn_36 rfl ?_
    refine j_getR C dX3_coldIn_37 CF3 (by decide) fl_X3_15 rfl rfl h (fun t3 h => ?_)
    refine j_iload_n C dX3_coldIn_40 rfl ?_
    refine j_iald C dX3_coldIn_41 rfl h (fun t4 h => ?_)
    refine j_imul C dX3_coldIn_42 ?_
    refine j_goto C 47 dX3_coldIn_43 rfl ?_
    exact j_ri C dX3_coldIn_47 rfl (Option.some.inj h).symm rfl
set_option maxRecDepth 100000 in
set_option maxHeartbeats 4000000 in
theorem X3_coldIn_J24_ok {g : Gm} {w : Wd} (C : Cx g w RX3 cX3_coldIn 4 (some .int)) {lv : Nat} (hlv : 0 < lv) {l0 : Nat} {l1 : Int} {l2 : Int} {m : Mem} {out : Int} (h : X3_coldIn_J24 l0 l1 l2 m = some out) : Jd g w 4 (rmL lv 0 0) (Qm g w (some (vI out)) m) 24 [some (vR l0), some (vI l1), some (vI l2), none] [] 312 m 0 0 := by
  unfold X3_coldIn_J24 at h
  refine j_iconst C dX3_coldIn_24 rfl ?_
  exact X3_coldIn_J25_ok C hlv h
set_option maxRecDepth 100000 in
set_option maxHeartbeats 4000000 in
theorem X3_coldIn_ct {l0 : Nat} {l1 : Int} {l2 : Int} {m : Mem} {out : Int} (h : X3_coldIn l0 l1 l2 m = some out) : shK l0 = 3 + 10 ∧ CT yX3_coldIn cX3_coldIn 4 (some .int) 1 0 0 [vR l0, vI l1, vI l2] 312 m (some (vI out)) 312 m := by
  unfold X3_coldIn at h
  obtain ⟨hK, h⟩ := ite_some h
  have hlv : 0 < 1 := by decide
  refine ⟨hK, CT.of (by decide +kernel) rfl (Nat.le_of_ble_eq_true rfl) (ls := [some (vR l0), some (vI l1), some (vI l2), none]) rfl fun g w C _ => ?_⟩
  refine j_iload_n C dX3_coldIn_0 rfl ?_
  refine j_if_lt C 24 dX3_coldIn_1 rfl h (fun c9 h => ?_) (fun c9 h => ?_)
  · exact X3_coldIn_J24_ok C hlv h
  · refine j_iload_n C dX3_coldIn_4 rfl ?_
    refine j_bipush C dX3_coldIn_5 rfl ?_
    refine j_icmp_ge C 24 dX3_coldIn_7 rfl h (fun c8 h => ?_) (fun c8 h => ?_)
    · exact X3_coldIn_J24_ok C hlv h
    · refine j_iload_n C dX3_coldIn_10 rfl ?_
      refine j_if_lt C 24 dX3_coldIn_11 rfl h (fun c7 h => ?_) (fun c7 h => ?_)
      · exact X3_coldIn_J24_ok C hlv h
      · refine j_iload_n C dX3_coldIn_14 rfl ?_
        refine j_bipush C dX3_coldIn_15 rfl ?_
        refine j_icmp_gt C 24 dX3_coldIn_17 rfl h (fun c6 h => ?_) (fun c6 h => ?_)
        · exact X3_coldIn_J24_ok C hlv h
        · refine j_iconst C dX3_coldIn_20 rfl ?_
          refine j_goto C 25 dX3_coldIn_21 rfl ?_
          exact X3_coldIn_J25_ok C hlv h
theorem dX3_lookUp_0 : decode cX3_lookUp 0 = .ok (.aload_n 0, 1) := by decide +kernel
theorem dX3_lookUp_1 : decode cX3_lookUp 1 = .ok (.getfield 26, 3) := by decide +kernel
theorem dX3_lookUp_4 : decode cX3_lookUp 4 = .ok (.iconst 3, 1) := by decide +kernel
theorem dX3_lookUp_5 : decode cX3_lookUp 5 = .ok (.iload_n 1, 1) := by decide +kernel
theorem dX3_lookUp_6 : decode cX3_lookUp 6 = .ok (.iastore, 1) := by decide +kernel
theorem dX3_lookUp_7 : decode cX3_lookUp 7 = .ok (.aload_n 0, 1) := by decide +kernel
theorem dX3_lookUp_8 : decode cX3_lookUp 8 = .ok (.getfield 26, 3) := by decide +kernel
theorem dX3_lookUp_11 : decode cX3_lookUp 11 = .ok (.iconst 2, 1) := by decide +kernel
theorem dX3_lookUp_12 : decode cX3_lookUp 12 = .ok (.iload_n 2, 1) := by decide +kernel
theorem dX3_lookUp_13 : decode cX3_lookUp 13 = .ok (.iastore, 1) := by decide +kernel
theorem dX3_lookUp_14 : decode cX3_lookUp 14 = .ok (.aload_n 0, 1) := by decide +kernel
theorem dX3_lookUp_15 : decode cX3_lookUp 15 = .ok (.getfield 26, 3) := by decide +kernel
theorem dX3_lookUp_18 : decode cX3_lookUp 18 = .ok (.iconst 4, 1) := by decide +kernel
theorem dX3_lookUp_19 : decode cX3_lookUp 19 = .ok (.aload_n 0, 1) := by decide +kernel
theorem dX3_lookUp_20 : decode cX3_lookUp 20 = .ok (.getfield 9, 3) := by decide +kernel
theorem dX3_lookUp_23 : decode cX3_lookUp 23 = .ok (.iload_n 1, 1) := by decide +kernel
theorem dX3_lookUp_24 : decode cX3_lookUp 24 = .ok (.iaload, 1) := by decide +kernel
theorem dX3_lookUp_25 : decode cX3_lookUp 25 = .ok (.iconst 1, 1) := by decide +kernel
theorem dX3_lookUp_26 : decode cX3_lookUp 26 = .ok (.if_icmp .ne 7, 3) := by decide +kernel
theorem dX3_lookUp_29 : decode cX3_lookUp 29 = .ok (.iconst 1, 1) := by decide +kernel
theorem dX3_lookUp_30 : decode cX3_lookUp 30 = .ok (.goto 4, 3) := by decide +kernel
theorem dX3_lookUp_33 : decode cX3_lookUp 33 = .ok (.iconst 0, 1) := by decide +kernel
theorem dX3_lookUp_34 : decode cX3_lookUp 34 = .ok (.iastore, 1) := by decide +kernel
theorem dX3_lookUp_35 : decode cX3_lookUp 35 = .ok (.aload_n 0, 1) := by decide +kernel
theorem dX3_lookUp_36 : decode cX3_lookUp 36 = .ok (.getfield 26, 3) := by decide +kernel
theorem dX3_lookUp_39 : decode cX3_lookUp 39 = .ok (.iconst 5, 1) := by decide +kernel
theorem dX3_lookUp_40 : decode cX3_lookUp 40 = .ok (.aload_n 0, 1) := by decide +kernel
theorem dX3_lookUp_41 : decode cX3_lookUp 41 = .ok (.getfield 9, 3) := by decide +kernel
theorem dX3_lookUp_44 : decode cX3_lookUp 44 = .ok (.iload_n 1, 1) := by decide +kernel
theorem dX3_lookUp_45 : decode cX3_lookUp 45 = .ok (.iaload, 1) := by decide +kernel
theorem dX3_lookUp_46 : decode cX3_lookUp 46 = .ok (.iconst 2, 1) := by decide +kernel
theorem dX3_lookUp_47 : decode cX3_lookUp 47 = .ok (.if_icmp .ne 7, 3) := by decide +kernel
theorem dX3_lookUp_50 : decode cX3_lookUp 50 = .ok (.iconst 1, 1) := by decide +kernel
theorem dX3_lookUp_51 : decode cX3_lookUp 51 = .ok (.goto 4, 3) := by decide +kernel
theorem dX3_lookUp_54 : decode cX3_lookUp 54 = .ok (.iconst 0, 1) := by decide +kernel
theorem dX3_lookUp_55 : decode cX3_lookUp 55 = .ok (.iastore, 1) := by decide +kernel
theorem dX3_lookUp_56 : decode cX3_lookUp 56 = .ok (.aload_n 0, 1) := by decide +kernel
theorem dX3_lookUp_57 : decode cX3_lookUp 57 = .ok (.getfield 26, 3) := by decide +kernel
theorem dX3_lookUp_60 : decode cX3_lookUp 60 = .ok (.bipush 6, 2) := by decide +kernel
theorem dX3_lookUp_62 : decode cX3_lookUp 62 = .ok (.aload_n 0, 1) := by decide +kernel
theorem dX3_lookUp_63 : decode cX3_lookUp 63 = .ok (.getfield 9, 3) := by decide +kernel
theorem dX3_lookUp_66 : decode cX3_lookUp 66 = .ok (.iload_n 1, 1) := by decide +kernel
theorem dX3_lookUp_67 : decode cX3_lookUp 67 = .ok (.iaload, 1) := by decide +kernel
theorem dX3_lookUp_68 : decode cX3_lookUp 68 = .ok (.iconst 3, 1) := by decide +kernel
theorem dX3_lookUp_69 : decode cX3_lookUp 69 = .ok (.if_icmp .ne 7, 3) := by decide +kernel
theorem dX3_lookUp_72 : decode cX3_lookUp 72 = .ok (.iconst 1, 1) := by decide +kernel
theorem dX3_lookUp_73 : decode cX3_lookUp 73 = .ok (.goto 4, 3) := by decide +kernel
theorem dX3_lookUp_76 : decode cX3_lookUp 76 = .ok (.iconst 0, 1) := by decide +kernel
theorem dX3_lookUp_77 : decode cX3_lookUp 77 = .ok (.iastore, 1) := by decide +kernel
theorem dX3_lookUp_78 : decode cX3_lookUp 78 = .ok (.return_, 1) := by decide +kernel
set_option maxRecDepth 100000 in
set_option maxHeartbeats 4000000 in
theorem X3_lookUp_J77_ok {g : Gm} {w : Wd} (C : Cx g w RX3 cX3_lookUp 3 none) {lv : Nat} (hlv : 0 < lv) {s0 : Nat} {s1 : Int} {s2 : Int} {m : Mem} {out : Mem} (h : X3_lookUp_J77 s0 s1 s2 m = some out) : Jd g w 3 (rmL lv 0 0) (Qm g w none out) 77 [none, none, none] [vI s2, vI s1, vR s0] 312 m 0 0 := by
  unfold X3_lookUp_J77 at h
  refine j_iast C dX3_lookUp_77 rfl h (fun m16 h => ?_)
  have e := Option.some.inj h
  subst e
  exact j_rv C dX3_lookUp_78 rfl rfl
set_option maxRecDepth 100000 in
set_option maxHeartbeats 4000000 in
theorem X3_lookUp_J55_ok {g : Gm} {w : Wd} (C : Cx g w RX3 cX3_lookUp 3 none) {lv : Nat} (hlv : 0 < lv) {l0 : Nat} {l1 : Int} {s0 : Nat} {s1 : Int} {s2 : Int} {m : Mem} {out : Mem} (h : X3_lookUp_J55 l0 l1 s0 s1 s2 m = some out) : Jd g w 3 (rmL lv 0 0) (Qm g w none out) 55 [some (vR l0), some (vI l1), none] [vI s2, vI s1, vR s0] 312 m 0 0 := by
  unfold X3_lookUp_J55 at h
  refine j_iast C dX3_lookUp_55 rfl h (fun m12 h => ?_)
  refine j_aload_n C dX3_lookUp_56 rfl ?_
  refine j_getR C dX3_lookUp_57 CF3 (by decide) fl_X3_26 rfl rfl h (fun t13 h => ?_)
  refine j_bipush C dX3_lookUp_60 rfl ?_
  refine j_aload_n C dX3_lookUp_62 rfl ?_
  refine j_getR C dX3_lookUp_63 CF3 (by decide) fl_X3_9 rfl rfl h (fun t14 h => ?_)
  refine j_iload_n C dX3_lookUp_66 rfl ?_
  refine j_iald C dX3_lookUp_67 rfl h (fun t15 h => ?_)
  refine j_iconst C dX3_lookUp_68 rfl ?_
  refine j_icmp_ne C 76 dX3_lookUp_69 rfl h (fun c17 h => ?_) (fun c17 h => ?_)
  · refine j_iconst C dX3_lookUp_76 rfl ?_
    refine j_mask [false, false, false] (ls' := [none, none, none]) rfl ?_
    exact X3_lookUp_J77_ok C hlv h
  · refine j_iconst C dX3_lookUp_72 rfl ?_
    refine j_goto C 77 dX3_lookUp_73 rfl ?_
    refine j_mask [false, false, false] (ls' := [none, none, none]) rfl ?_
    exact X3_lookUp_J77_ok C hlv h
set_option maxRecDepth 100000 in
set_option maxHeartbeats 4000000 in
theorem X3_lookUp_J34_ok {g : Gm} {w : Wd} (C : Cx g w RX3 cX3_lookUp 3 none) {lv : Nat} (hlv : 0 < lv) {l0 : Nat} {l1 : Int} {s0 : Nat} {s1 : Int} {s2 : Int} {m : Mem} {out : Mem} (h : X3_lookUp_J34 l0 l1 s0 s1 s2 m = some out) : Jd g w 3 (rmL lv 0 0) (Qm g w none out) 34 [some (vR l0), some (vI l1), none] [vI s2, vI s1, vR s0] 312 m 0 0 := by
  unfold X3_lookUp_J34 at h
  refine j_iast C dX3_lookUp_34 rfl h (fun m8 h => ?_)
  refine j_aload_n C dX3_lookUp_35 rfl ?_
  refine j_getR C dX3_lookUp_36 CF3 (by decide) fl_X3_26 rfl rfl h (fun t9 h => ?_)
  refine j_iconst C dX3_lookUp_39 rfl ?_
  refine j_aload_n C dX3_lookUp_40 rfl ?_
  refine j_getR C dX3_lookUp_41 CF3 (by decide) fl_X3_9 rfl rfl h (fun t10 h => ?_)
  refine j_iload_n C dX3_lookUp_44 rfl ?_
  refine j_iald C dX3_lookUp_45 rfl h (fun t11 h => ?_)
  refine j_iconst C dX3_lookUp_46 rfl ?_
  refine j_icmp_ne C 54 dX3_lookUp_47 rfl h (fun c18 h => ?_) (fun c18 h => ?_)
  · refine j_iconst C dX3_lookUp_54 rfl ?_
    exact X3_lookUp_J55_ok C hlv h
  · refine j_iconst C dX3_lookUp_50 rfl ?_
    refine j_goto C 55 dX3_lookUp_51 rfl ?_
    exact X3_lookUp_J55_ok C hlv h
set_option maxRecDepth 100000 in
set_option maxHeartbeats 4000000 in
theorem X3_lookUp_ct {l0 : Nat} {l1 : Int} {l2 : Int} {m : Mem} {out : Mem} (h : X3_lookUp l0 l1 l2 m = some out) : shK l0 = 3 + 10 ∧ CT yX3_lookUp cX3_lookUp 3 none 1 0 0 [vR l0, vI l1, vI l2] 312 m none 312 out := by
  unfold X3_lookUp at h
  obtain ⟨hK, h⟩ := ite_some h
  have hlv : 0 < 1 := by decide
  refine ⟨hK, CT.of (by decide +kernel) rfl (Nat.le_of_ble_eq_true rfl) (ls := [some (vR l0), some (vI l1), some (vI l2)]) rfl fun g w C _ => ?_⟩
  refine j_aload_n C dX3_lookUp_0 rfl ?_
  refine j_getR C dX3_lookUp_1 CF3 (by decide) fl_X3_26 rfl rfl h (fun t1 h => ?_)
  refine j_iconst C dX3_lookUp_4 rfl ?_
  refine j_iload_n C dX3_lookUp_5 rfl ?_
  refine j_iast C dX3_lookUp_6 rfl h (fun m2 h => ?_)
  refine j_aload_n C dX3_lookUp_7 rfl ?_
  refine j_getR C dX3_lookUp_8 CF3 (by decide) fl_X3_26 rfl rfl h (fun t3 h => ?_)
  refine j_iconst C dX3_lookUp_11 rfl ?_
  refine j_iload_n C dX3_lookUp_12 rfl ?_
  refine j_iast C dX3_lookUp_13 rfl h (fun m4 h => ?_)
  refine j_aload_n C dX3_lookUp_14 rfl ?_
  refine j_getR C dX3_lookUp_15 CF3 (by decide) fl_X3_26 rfl rfl h (fun t5 h => ?_)
  refine j_iconst C dX3_lookUp_18 rfl ?_
  refine j_aload_n C dX3_lookUp_19 rfl ?_
  refine j_getR C dX3_lookUp_20 CF3 (by decide) fl_X3_9 rfl rfl h (fun t6 h => ?_)
  refine j_iload_n C dX3_lookUp_23 rfl ?_
  refine j_iald C dX3_lookUp_24 rfl h (fun t7 h => ?_)
  refine j_iconst C dX3_lookUp_25 rfl ?_
  refine j_icmp_ne C 33 dX3_lookUp_26 rfl h (fun c19 h => ?_) (fun c19 h => ?_)
  · refine j_iconst C dX3_lookUp_33 rfl ?_
    refine j_mask [true, true, false] (ls' := [some (vR _), some (vI _), none]) rfl ?_
    exact X3_lookUp_J34_ok C hlv h
  · refine j_iconst C dX3_lookUp_29 rfl ?_
    refine j_goto C 34 dX3_lookUp_30 rfl ?_
    refine j_mask [true, true, false] (ls' := [some (vR _), some (vI _), none]) rfl ?_
    exact X3_lookUp_J34_ok C hlv h
theorem dX7_isTold_0 : decode cX7_isTold 0 = .ok (.iload_n 1, 1) := by decide +kernel
theorem dX7_isTold_1 : decode cX7_isTold 1 = .ok (.ifCond .lt 27, 3) := by decide +kernel
theorem dX7_isTold_4 : decode cX7_isTold 4 = .ok (.iload_n 1, 1) := by decide +kernel
theorem dX7_isTold_5 : decode cX7_isTold 5 = .ok (.iconst 2, 1) := by decide +kernel
theorem dX7_isTold_6 : decode cX7_isTold 6 = .ok (.if_icmp .ge 22, 3) := by decide +kernel
theorem dX7_isTold_9 : decode cX7_isTold 9 = .ok (.aload_n 0, 1) := by decide +kernel
theorem dX7_isTold_10 : decode cX7_isTold 10 = .ok (.getfield 25, 3) := by decide +kernel
theorem dX7_isTold_13 : decode cX7_isTold 13 = .ok (.iload_n 1, 1) := by decide +kernel
theorem dX7_isTold_14 : decode cX7_isTold 14 = .ok (.iaload, 1) := by decide +kernel
theorem dX7_isTold_15 : decode cX7_isTold 15 = .ok (.aload_n 0, 1) := by decide +kernel
theorem dX7_isTold_16 : decode cX7_isTold 16 = .ok (.getfield 22, 3) := by decide +kernel
theorem dX7_isTold_19 : decode cX7_isTold 19 = .ok (.iload_n 1, 1) := by decide +kernel
theorem dX7_isTold_20 : decode cX7_isTold 20 = .ok (.iaload, 1) := by decide +kernel
theorem dX7_isTold_21 : decode cX7_isTold 21 = .ok (.if_icmp .le 7, 3) := by decide +kernel
theorem dX7_isTold_24 : decode cX7_isTold 24 = .ok (.iconst 1, 1) := by decide +kernel
theorem dX7_isTold_25 : decode cX7_isTold 25 = .ok (.goto 4, 3) := by decide +kernel
theorem dX7_isTold_28 : decode cX7_isTold 28 = .ok (.iconst 0, 1) := by decide +kernel
theorem dX7_isTold_29 : decode cX7_isTold 29 = .ok (.ireturn, 1) := by decide +kernel
set_option maxRecDepth 100000 in
set_option maxHeartbeats 4000000 in
theorem X7_isTold_ct {l0 : Nat} {l1 : Int} {m : Mem} {out : Int} (h : X7_isTold l0 l1 m = some out) : shK l0 = 7 + 10 ∧ CT yX7_isTold cX7_isTold 2 (some .boolean) 1 0 0 [vR l0, vI l1] 312 m (some (vI out)) 312 m := by
  unfold X7_isTold at h
  obtain ⟨hK, h⟩ := ite_some h
  have hlv : 0 < 1 := by decide
  refine ⟨hK, CT.of (by decide +kernel) rfl (Nat.le_of_ble_eq_true rfl) (ls := [some (vR l0), some (vI l1)]) rfl fun g w C _ => ?_⟩
  refine j_iload_n C dX7_isTold_0 rfl ?_
  refine j_if_lt C 28 dX7_isTold_1 rfl h (fun c7 h => ?_) (fun c7 h => ?_)
  · refine j_iconst C dX7_isTold_28 rfl ?_
    exact j_rz C dX7_isTold_29 rfl (retZ_some h) rfl
  · refine j_iload_n C dX7_isTold_4 rfl ?_
    refine j_iconst C dX7_isTold_5 rfl ?_
    refine j_icmp_ge C 28 dX7_isTold_6 rfl h (fun c6 h => ?_) (fun c6 h => ?_)
    · refine j_iconst C dX7_isTold_28 rfl ?_
      exact j_rz C dX7_isTold_29 rfl (retZ_some h) rfl
    · refine j_aload_n C dX7_isTold_9 rfl ?_
      refine j_getR C dX7_isTold_10 CF7 (by decide) fl_X7_25 rfl rfl h (fun t1 h => ?_)
      refine j_iload_n C dX7_isTold_13 rfl ?_
      refine j_iald C dX7_isTold_14 rfl h (fun t2 h => ?_)
      refine j_aload_n C dX7_isTold_15 rfl ?_
      refine j_getR C dX7_isTold_16 CF7 (by decide) fl_X7_22 rfl rfl h (fun t3 h => ?_)
      refine j_iload_n C dX7_isTold_19 rfl ?_
      refine j_iald C dX7_isTold_20 rfl h (fun t4 h => ?_)
      refine j_icmp_le C 28 dX7_isTold_21 rfl h (fun c5 h => ?_) (fun c5 h => ?_)
      · refine j_iconst C dX7_isTold_28 rfl ?_
        exact j_rz C dX7_isTold_29 rfl (retZ_some h) rfl
      · refine j_iconst C dX7_isTold_24 rfl ?_
        refine j_goto C 29 dX7_isTold_25 rfl ?_
        exact j_rz C dX7_isTold_29 rfl (retZ_some h) rfl
theorem dX7_factAt_0 : decode cX7_factAt 0 = .ok (.iload_n 1, 1) := by decide +kernel
theorem dX7_factAt_1 : decode cX7_factAt 1 = .ok (.ifCond .lt 15, 3) := by decide +kernel
theorem dX7_factAt_4 : decode cX7_factAt 4 = .ok (.iload_n 1, 1) := by decide +kernel
theorem dX7_factAt_5 : decode cX7_factAt 5 = .ok (.aload_n 0, 1) := by decide +kernel
theorem dX7_factAt_6 : decode cX7_factAt 6 = .ok (.arraylength, 1) := by decide +kernel
theorem dX7_factAt_7 : decode cX7_factAt 7 = .ok (.if_icmp .ge 9, 3) := by decide +kernel
theorem dX7_factAt_10 : decode cX7_factAt 10 = .ok (.aload_n 0, 1) := by decide +kernel
theorem dX7_factAt_11 : decode cX7_factAt 11 = .ok (.iload_n 1, 1) := by decide +kernel
theorem dX7_factAt_12 : decode cX7_factAt 12 = .ok (.iaload, 1) := by decide +kernel
theorem dX7_factAt_13 : decode cX7_factAt 13 = .ok (.goto 4, 3) := by decide +kernel
theorem dX7_factAt_16 : decode cX7_factAt 16 = .ok (.iconst 0, 1) := by decide +kernel
theorem dX7_factAt_17 : decode cX7_factAt 17 = .ok (.ireturn, 1) := by decide +kernel
set_option maxRecDepth 100000 in
set_option maxHeartbeats 4000000 in
theorem X7_factAt_ct {l0 : Nat} {l1 : Int} {m : Mem} {out : Int} (h : X7_factAt l0 l1 m = some out) : CT yX7_factAt cX7_factAt 2 (some .int) 1 0 0 [vR l0, vI l1] 312 m (some (vI out)) 312 m := by
  unfold X7_factAt at h
  have hlv : 0 < 1 := by decide
  refine CT.of (by decide +kernel) rfl (Nat.le_of_ble_eq_true rfl) (ls := [some (vR l0), some (vI l1)]) rfl fun g w C _ => ?_
  refine j_iload_n C dX7_factAt_0 rfl ?_
  refine j_if_lt C 16 dX7_factAt_1 rfl h (fun c4 h => ?_) (fun c4 h => ?_)
  · refine j_iconst C dX7_factAt_16 rfl ?_
    exact j_ri C dX7_factAt_17 rfl (Option.some.inj h).symm rfl
  · refine j_iload_n C dX7_factAt_4 rfl ?_
    refine j_aload_n C dX7_factAt_5 rfl ?_
    refine j_alen C dX7_factAt_6 rfl h (fun t1 h => ?_)
    refine j_icmp_ge C 16 dX7_factAt_7 rfl h (fun c3 h => ?_) (fun c3 h => ?_)
    · refine j_iconst C dX7_factAt_16 rfl ?_
      exact j_ri C dX7_factAt_17 rfl (Option.some.inj h).symm rfl
    · refine j_aload_n C dX7_factAt_10 rfl ?_
      refine j_iload_n C dX7_factAt_11 rfl ?_
      refine j_iald C dX7_factAt_12 rfl h (fun t2 h => ?_)
      refine j_goto C 17 dX7_factAt_13 rfl ?_
      exact j_ri C dX7_factAt_17 rfl (Option.some.inj h).symm rfl
theorem dJ9_floorDiv_f86c9_0 : decode cJ9_floorDiv_f86c9 0 = .ok (.lload_n 0, 1) := by decide +kernel
theorem dJ9_floorDiv_f86c9_1 : decode cJ9_floorDiv_f86c9 1 = .ok (.lload_n 2, 1) := by decide +kernel
theorem dJ9_floorDiv_f86c9_2 : decode cJ9_floorDiv_f86c9 2 = .ok (.ldiv, 1) := by decide +kernel
theorem dJ9_floorDiv_f86c9_3 : decode cJ9_floorDiv_f86c9 3 = .ok (.lstore 4, 2) := by decide +kernel
theorem dJ9_floorDiv_f86c9_5 : decode cJ9_floorDiv_f86c9 5 = .ok (.lload_n 0, 1) := by decide +kernel
theorem dJ9_floorDiv_f86c9_6 : decode cJ9_floorDiv_f86c9 6 = .ok (.lload_n 2, 1) := by decide +kernel
theorem dJ9_floorDiv_f86c9_7 : decode cJ9_floorDiv_f86c9 7 = .ok (.lxor, 1) := by decide +kernel
theorem dJ9_floorDiv_f86c9_8 : decode cJ9_floorDiv_f86c9 8 = .ok (.lconst 0, 1) := by decide +kernel
theorem dJ9_floorDiv_f86c9_9 : decode cJ9_floorDiv_f86c9 9 = .ok (.lcmp, 1) := by decide +kernel
theorem dJ9_floorDiv_f86c9_10 : decode cJ9_floorDiv_f86c9 10 = .ok (.ifCond .ge 17, 3) := by decide +kernel
theorem dJ9_floorDiv_f86c9_13 : decode cJ9_floorDiv_f86c9 13 = .ok (.lload 4, 2) := by decide +kernel
theorem dJ9_floorDiv_f86c9_15 : decode cJ9_floorDiv_f86c9 15 = .ok (.lload_n 2, 1) := by decide +kernel
theorem dJ9_floorDiv_f86c9_16 : decode cJ9_floorDiv_f86c9 16 = .ok (.lmul, 1) := by decide +kernel
theorem dJ9_floorDiv_f86c9_17 : decode cJ9_floorDiv_f86c9 17 = .ok (.lload_n 0, 1) := by decide +kernel
theorem dJ9_floorDiv_f86c9_18 : decode cJ9_floorDiv_f86c9 18 = .ok (.lcmp, 1) := by decide +kernel
theorem dJ9_floorDiv_f86c9_19 : decode cJ9_floorDiv_f86c9 19 = .ok (.ifCond .eq 8, 3) := by decide +kernel
theorem dJ9_floorDiv_f86c9_22 : decode cJ9_floorDiv_f86c9 22 = .ok (.lload 4, 2) := by decide +kernel
theorem dJ9_floorDiv_f86c9_24 : decode cJ9_floorDiv_f86c9 24 = .ok (.lconst 1, 1) := by decide +kernel
theorem dJ9_floorDiv_f86c9_25 : decode cJ9_floorDiv_f86c9 25 = .ok (.lsub, 1) := by decide +kernel
theorem dJ9_floorDiv_f86c9_26 : decode cJ9_floorDiv_f86c9 26 = .ok (.lreturn, 1) := by decide +kernel
theorem dJ9_floorDiv_f86c9_27 : decode cJ9_floorDiv_f86c9 27 = .ok (.lload 4, 2) := by decide +kernel
theorem dJ9_floorDiv_f86c9_29 : decode cJ9_floorDiv_f86c9 29 = .ok (.lreturn, 1) := by decide +kernel
set_option maxRecDepth 100000 in
set_option maxHeartbeats 4000000 in
theorem J9_floorDiv_f86c9_ct {l0 : Int} {l2 : Int} {m : Mem} {out : Int} (h : J9_floorDiv_f86c9 l0 l2 m = some out) : CT yJ9_floorDiv_f86c9 cJ9_floorDiv_f86c9 6 (some .long) 1 0 0 [vL l0, vL l2] 312 m (some (vL out)) 312 m := by
  unfold J9_floorDiv_f86c9 at h
  have hlv : 0 < 1 := by decide
  refine CT.of (by decide +kernel) rfl (Nat.le_of_ble_eq_true rfl) (ls := [some (vL l0), none, some (vL l2), none, none, none]) rfl fun g w C _ => ?_
  refine j_lload_n C dJ9_floorDiv_f86c9_0 rfl ?_
  refine j_lload_n C dJ9_floorDiv_f86c9_1 rfl ?_
  obtain ⟨c1, h⟩ := ite_none h
  refine j_ldiv C dJ9_floorDiv_f86c9_2 c1 ?_
  refine j_lstore (ls' := [some (vL _), none, some (vL _), none, some (vL _), none]) C dJ9_floorDiv_f86c9_3 (by decide) rfl ?_
  refine j_lload_n C dJ9_floorDiv_f86c9_5 rfl ?_
  refine j_lload_n C dJ9_floorDiv_f86c9_6 rfl ?_
  refine j_lxor C dJ9_floorDiv_f86c9_7 ?_
  refine j_lconst (v := 0) C dJ9_floorDiv_f86c9_8 rfl rfl ?_
  refine j_lcmp C dJ9_floorDiv_f86c9_9 ?_
  refine j_if_ge C 27 dJ9_floorDiv_f86c9_10 rfl h (fun c3 h => ?_) (fun c3 h => ?_)
  · refine j_lload C dJ9_floorDiv_f86c9_27 rfl ?_
    exact j_rl C dJ9_floorDiv_f86c9_29 rfl (Option.some.inj h).symm rfl
  · refine j_lload C dJ9_floorDiv_f86c9_13 rfl ?_
    refine j_lload_n C dJ9_floorDiv_f86c9_15 rfl ?_
    refine j_lmul C dJ9_floorDiv_f86c9_16 ?_
    refine j_lload_n C dJ9_floorDiv_f86c9_17 rfl ?_
    refine j_lcmp C dJ9_floorDiv_f86c9_18 ?_
    refine j_if_eq C 27 dJ9_floorDiv_f86c9_19 rfl h (fun c2 h => ?_) (fun c2 h => ?_)
    · refine j_lload C dJ9_floorDiv_f86c9_27 rfl ?_
      exact j_rl C dJ9_floorDiv_f86c9_29 rfl (Option.some.inj h).symm rfl
    · refine j_lload C dJ9_floorDiv_f86c9_22 rfl ?_
      refine j_lconst (v := 1) C dJ9_floorDiv_f86c9_24 rfl rfl ?_
      refine j_lsub C dJ9_floorDiv_f86c9_25 ?_
      exact j_rl C dJ9_floorDiv_f86c9_26 rfl (Option.some.inj h).symm rfl
theorem dJ9_floorMod_f86c9_0 : decode cJ9_floorMod_f86c9 0 = .ok (.lload_n 0, 1) := by decide +kernel
theorem dJ9_floorMod_f86c9_1 : decode cJ9_floorMod_f86c9 1 = .ok (.lload_n 2, 1) := by decide +kernel
theorem dJ9_floorMod_f86c9_2 : decode cJ9_floorMod_f86c9 2 = .ok (.lrem, 1) := by decide +kernel
theorem dJ9_floorMod_f86c9_3 : decode cJ9_floorMod_f86c9 3 = .ok (.lstore 4, 2) := by decide +kernel
theorem dJ9_floorMod_f86c9_5 : decode cJ9_floorMod_f86c9 5 = .ok (.lload_n 0, 1) := by decide +kernel
theorem dJ9_floorMod_f86c9_6 : decode cJ9_floorMod_f86c9 6 = .ok (.lload_n 2, 1) := by decide +kernel
theorem dJ9_floorMod_f86c9_7 : decode cJ9_floorMod_f86c9 7 = .ok (.lxor, 1) := by decide +kernel
theorem dJ9_floorMod_f86c9_8 : decode cJ9_floorMod_f86c9 8 = .ok (.lconst 0, 1) := by decide +kernel
theorem dJ9_floorMod_f86c9_9 : decode cJ9_floorMod_f86c9 9 = .ok (.lcmp, 1) := by decide +kernel
theorem dJ9_floorMod_f86c9_10 : decode cJ9_floorMod_f86c9 10 = .ok (.ifCond .ge 15, 3) := by decide +kernel
theorem dJ9_floorMod_f86c9_13 : decode cJ9_floorMod_f86c9 13 = .ok (.lload 4, 2) := by decide +kernel
theorem dJ9_floorMod_f86c9_15 : decode cJ9_floorMod_f86c9 15 = .ok (.lconst 0, 1) := by decide +kernel
theorem dJ9_floorMod_f86c9_16 : decode cJ9_floorMod_f86c9 16 = .ok (.lcmp, 1) := by decide +kernel
theorem dJ9_floorMod_f86c9_17 : decode cJ9_floorMod_f86c9 17 = .ok (.ifCond .eq 8, 3) := by decide +kernel
theorem dJ9_floorMod_f86c9_20 : decode cJ9_floorMod_f86c9 20 = .ok (.lload 4, 2) := by decide +kernel
theorem dJ9_floorMod_f86c9_22 : decode cJ9_floorMod_f86c9 22 = .ok (.lload_n 2, 1) := by decide +kernel
theorem dJ9_floorMod_f86c9_23 : decode cJ9_floorMod_f86c9 23 = .ok (.ladd, 1) := by decide +kernel
theorem dJ9_floorMod_f86c9_24 : decode cJ9_floorMod_f86c9 24 = .ok (.lreturn, 1) := by decide +kernel
theorem dJ9_floorMod_f86c9_25 : decode cJ9_floorMod_f86c9 25 = .ok (.lload 4, 2) := by decide +kernel
theorem dJ9_floorMod_f86c9_27 : decode cJ9_floorMod_f86c9 27 = .ok (.lreturn, 1) := by decide +kernel
set_option maxRecDepth 100000 in
set_option maxHeartbeats 4000000 in
theorem J9_floorMod_f86c9_ct {l0 : Int} {l2 : Int} {m : Mem} {out : Int} (h : J9_floorMod_f86c9 l0 l2 m = some out) : CT yJ9_floorMod_f86c9 cJ9_floorMod_f86c9 6 (some .long) 1 0 0 [vL l0, vL l2] 312 m (some (vL out)) 312 m := by
  unfold J9_floorMod_f86c9 at h
  have hlv : 0 < 1 := by decide
  refine CT.of (by decide +kernel) rfl (Nat.le_of_ble_eq_true rfl) (ls := [some (vL l0), none, some (vL l2), none, none, none]) rfl fun g w C _ => ?_
  refine j_lload_n C dJ9_floorMod_f86c9_0 rfl ?_
  refine j_lload_n C dJ9_floorMod_f86c9_1 rfl ?_
  obtain ⟨c1, h⟩ := ite_none h
  refine j_lrem C dJ9_floorMod_f86c9_2 c1 ?_
  refine j_lstore (ls' := [some (vL _), none, some (vL _), none, some (vL _), none]) C dJ9_floorMod_f86c9_3 (by decide) rfl ?_
  refine j_lload_n C dJ9_floorMod_f86c9_5 rfl ?_
  refine j_lload_n C dJ9_floorMod_f86c9_6 rfl ?_
  refine j_lxor C dJ9_floorMod_f86c9_7 ?_
  refine j_lconst (v := 0) C dJ9_floorMod_f86c9_8 rfl rfl ?_
  refine j_lcmp C dJ9_floorMod_f86c9_9 ?_
  refine j_if_ge C 25 dJ9_floorMod_f86c9_10 rfl h (fun c3 h => ?_) (fun c3 h => ?_)
  · refine j_lload C dJ9_floorMod_f86c9_25 rfl ?_
    exact j_rl C dJ9_floorMod_f86c9_27 rfl (Option.some.inj h).symm rfl
  · refine j_lload C dJ9_floorMod_f86c9_13 rfl ?_
    refine j_lconst (v := 0) C dJ9_floorMod_f86c9_15 rfl rfl ?_
    refine j_lcmp C dJ9_floorMod_f86c9_16 ?_
    refine j_if_eq C 25 dJ9_floorMod_f86c9_17 rfl h (fun c2 h => ?_) (fun c2 h => ?_)
    · refine j_lload C dJ9_floorMod_f86c9_25 rfl ?_
      exact j_rl C dJ9_floorMod_f86c9_27 rfl (Option.some.inj h).symm rfl
    · refine j_lload C dJ9_floorMod_f86c9_20 rfl ?_
      refine j_lload_n C dJ9_floorMod_f86c9_22 rfl ?_
      refine j_ladd C dJ9_floorMod_f86c9_23 ?_
      exact j_rl C dJ9_floorMod_f86c9_24 rfl (Option.some.inj h).symm rfl
theorem dX7_join_0 : decode cX7_join 0 = .ok (.iload_n 0, 1) := by decide +kernel
theorem dX7_join_1 : decode cX7_join 1 = .ok (.lookupswitch 123 #[(-101, 117), (-100, 111), (-47, 79), (-45, 71), (-43, 67), (-42, 75), (-37, 95)], 67) := by decide +kernel
theorem dX7_join_68 : decode cX7_join 68 = .ok (.lload_n 1, 1) := by decide +kernel
theorem dX7_join_69 : decode cX7_join 69 = .ok (.lload_n 3, 1) := by decide +kernel
theorem dX7_join_70 : decode cX7_join 70 = .ok (.ladd, 1) := by decide +kernel
theorem dX7_join_71 : decode cX7_join 71 = .ok (.lreturn, 1) := by decide +kernel
theorem dX7_join_72 : decode cX7_join 72 = .ok (.lload_n 1, 1) := by decide +kernel
theorem dX7_join_73 : decode cX7_join 73 = .ok (.lload_n 3, 1) := by decide +kernel
theorem dX7_join_74 : decode cX7_join 74 = .ok (.lsub, 1) := by decide +kernel
theorem dX7_join_75 : decode cX7_join 75 = .ok (.lreturn, 1) := by decide +kernel
theorem dX7_join_76 : decode cX7_join 76 = .ok (.lload_n 1, 1) := by decide +kernel
theorem dX7_join_77 : decode cX7_join 77 = .ok (.lload_n 3, 1) := by decide +kernel
theorem dX7_join_78 : decode cX7_join 78 = .ok (.lmul, 1) := by decide +kernel
theorem dX7_join_79 : decode cX7_join 79 = .ok (.lreturn, 1) := by decide +kernel
theorem dX7_join_80 : decode cX7_join 80 = .ok (.lload_n 3, 1) := by decide +kernel
theorem dX7_join_81 : decode cX7_join 81 = .ok (.lconst 0, 1) := by decide +kernel
theorem dX7_join_82 : decode cX7_join 82 = .ok (.lcmp, 1) := by decide +kernel
theorem dX7_join_83 : decode cX7_join 83 = .ok (.ifCond .ne 7, 3) := by decide +kernel
theorem dX7_join_86 : decode cX7_join 86 = .ok (.lconst 0, 1) := by decide +kernel
theorem dX7_join_87 : decode cX7_join 87 = .ok (.goto 8, 3) := by decide +kernel
theorem dX7_join_90 : decode cX7_join 90 = .ok (.lload_n 1, 1) := by decide +kernel
theorem dX7_join_91 : decode cX7_join 91 = .ok (.lload_n 3, 1) := by decide +kernel
theorem dX7_join_92 : decode cX7_join 92 = .ok (.invokestatic 62, 3) := by decide +kernel
theorem dX7_join_95 : decode cX7_join 95 = .ok (.lreturn, 1) := by decide +kernel
theorem dX7_join_96 : decode cX7_join 96 = .ok (.lload_n 3, 1) := by decide +kernel
theorem dX7_join_97 : decode cX7_join 97 = .ok (.lconst 0, 1) := by decide +kernel
theorem dX7_join_98 : decode cX7_join 98 = .ok (.lcmp, 1) := by decide +kernel
theorem dX7_join_99 : decode cX7_join 99 = .ok (.ifCond .ne 7, 3) := by decide +kernel
theorem dX7_join_102 : decode cX7_join 102 = .ok (.lconst 0, 1) := by decide +kernel
theorem dX7_join_103 : decode cX7_join 103 = .ok (.goto 8, 3) := by decide +kernel
theorem dX7_join_106 : decode cX7_join 106 = .ok (.lload_n 1, 1) := by decide +kernel
theorem dX7_join_107 : decode cX7_join 107 = .ok (.lload_n 3, 1) := by decide +kernel
theorem dX7_join_108 : decode cX7_join 108 = .ok (.invokestatic 65, 3) := by decide +kernel
theorem dX7_join_111 : decode cX7_join 111 = .ok (.lreturn, 1) := by decide +kernel
theorem dX7_join_112 : decode cX7_join 112 = .ok (.lload_n 1, 1) := by decide +kernel
theorem dX7_join_113 : decode cX7_join 113 = .ok (.lload_n 3, 1) := by decide +kernel
theorem dX7_join_114 : decode cX7_join 114 = .ok (.invokestatic 53, 3) := by decide +kernel
theorem dX7_join_117 : decode cX7_join 117 = .ok (.lreturn, 1) := by decide +kernel
theorem dX7_join_118 : decode cX7_join 118 = .ok (.lload_n 1, 1) := by decide +kernel
theorem dX7_join_119 : decode cX7_join 119 = .ok (.lload_n 3, 1) := by decide +kernel
theorem dX7_join_120 : decode cX7_join 120 = .ok (.invokestatic 59, 3) := by decide +kernel
theorem dX7_join_123 : decode cX7_join 123 = .ok (.lreturn, 1) := by decide +kernel
theorem dX7_join_124 : decode cX7_join 124 = .ok (.lconst 0, 1) := by decide +kernel
theorem dX7_join_125 : decode cX7_join 125 = .ok (.lreturn, 1) := by decide +kernel
set_option maxRecDepth 100000 in
set_option maxHeartbeats 4000000 in
theorem X7_join_ct {l0 : Int} {l1 : Int} {l3 : Int} {m : Mem} {out : Int} (h : X7_join l0 l1 l3 m = some out) : CT yX7_join cX7_join 5 (some .long) 2 0 0 [vI l0, vL l1, vL l3] 312 m (some (vL out)) 312 m := by
  unfold X7_join at h
  have hlv : 1 < 2 := by decide
  refine CT.of (by decide +kernel) rfl (Nat.le_of_ble_eq_true rfl) (ls := [some (vI l0), some (vL l1), none, some (vL l3), none]) rfl fun g w C _ => ?_
  refine j_iload_n C dX7_join_0 rfl ?_
  rcases ite_cases h with ⟨c1, h⟩ | ⟨c1, h⟩
  · refine j_lks C 118 dX7_join_1 (by decide) (by rw [c1] <;> rfl) rfl ?_
    refine j_lload_n C dX7_join_118 rfl ?_
    refine j_lload_n C dX7_join_119 rfl ?_
    refine j_lmax C dX7_join_120 ml_X7_59 rfl (by omega) (Nat.le_refl 0) (Nat.le_refl 0) (Nat.le_of_ble_eq_true rfl) ?_
    exact j_rl C dX7_join_123 rfl (Option.some.inj h).symm rfl
  rcases ite_cases h with ⟨c2, h⟩ | ⟨c2, h⟩
  · refine j_lks C 112 dX7_join_1 (by decide) (by rw [c2] <;> rfl) rfl ?_
    refine j_lload_n C dX7_join_112 rfl ?_
    refine j_lload_n C dX7_join_113 rfl ?_
    refine j_lmin C dX7_join_114 ml_X7_53 rfl (by omega) (Nat.le_refl 0) (Nat.le_refl 0) (Nat.le_of_ble_eq_true rfl) ?_
    exact j_rl C dX7_join_117 rfl (Option.some.inj h).symm rfl
  rcases ite_cases h with ⟨c5, h⟩ | ⟨c5, h⟩
  · refine j_lks C 80 dX7_join_1 (by decide) (by rw [c5] <;> rfl) rfl ?_
    refine j_lload_n C dX7_join_80 rfl ?_
    refine j_lconst (v := 0) C dX7_join_81 rfl rfl ?_
    refine j_lcmp C dX7_join_82 ?_
    refine j_if_ne C 90 dX7_join_83 rfl h (fun c4 h => ?_) (fun c4 h => ?_)
    · refine j_lload_n C dX7_join_90 rfl ?_
      refine j_lload_n C dX7_join_91 rfl ?_
      obtain ⟨p3, ep3, h⟩ := bind_some h
      have qp3 := J9_floorDiv_f86c9_ct ep3
      refine j_cSL C dX7_join_92 sl_X7_62 qp3 (by omega) rfl rfl (Nat.le_of_ble_eq_true rfl) ?_
      exact j_rl C dX7_join_95 rfl (Option.some.inj h).symm rfl
    · refine j_lconst (v := 0) C dX7_join_86 rfl rfl ?_
      refine j_goto C 95 dX7_join_87 rfl ?_
      exact j_rl C dX7_join_95 rfl (Option.some.inj h).symm rfl
  rcases ite_cases h with ⟨c6, h⟩ | ⟨c6, h⟩
  · refine j_lks C 72 dX7_join_1 (by decide) (by rw [c6] <;> rfl) rfl ?_
    refine j_lload_n C dX7_join_72 rfl ?_
    refine j_lload_n C dX7_join_73 rfl ?_
    refine j_lsub C dX7_join_74 ?_
    exact j_rl C dX7_join_75 rfl (Option.some.inj h).symm rfl
  rcases ite_cases h with ⟨c7, h⟩ | ⟨c7, h⟩
  · refine j_lks C 68 dX7_join_1 (by decide) (by rw [c7] <;> rfl) rfl ?_
    refine j_lload_n C dX7_join_68 rfl ?_
    refine j_lload_n C dX7_join_69 rfl ?_
    refine j_ladd C dX7_join_70 ?_
    exact j_rl C dX7_join_71 rfl (Option.some.inj h).symm rfl
  rcases ite_cases h with ⟨c8, h⟩ | ⟨c8, h⟩
  · refine j_lks C 76 dX7_join_1 (by decide) (by rw [c8] <;> rfl) rfl ?_
    refine j_lload_n C dX7_join_76 rfl ?_
    refine j_lload_n C dX7_join_77 rfl ?_
    refine j_lmul C dX7_join_78 ?_
    exact j_rl C dX7_join_79 rfl (Option.some.inj h).symm rfl
  rcases ite_cases h with ⟨c11, h⟩ | ⟨c11, h⟩
  · refine j_lks C 96 dX7_join_1 (by decide) (by rw [c11] <;> rfl) rfl ?_
    refine j_lload_n C dX7_join_96 rfl ?_
    refine j_lconst (v := 0) C dX7_join_97 rfl rfl ?_
    refine j_lcmp C dX7_join_98 ?_
    refine j_if_ne C 106 dX7_join_99 rfl h (fun c10 h => ?_) (fun c10 h => ?_)
    · refine j_lload_n C dX7_join_106 rfl ?_
      refine j_lload_n C dX7_join_107 rfl ?_
      obtain ⟨p9, ep9, h⟩ := bind_some h
      have qp9 := J9_floorMod_f86c9_ct ep9
      refine j_cSL C dX7_join_108 sl_X7_65 qp9 (by omega) rfl rfl (Nat.le_of_ble_eq_true rfl) ?_
      exact j_rl C dX7_join_111 rfl (Option.some.inj h).symm rfl
    · refine j_lconst (v := 0) C dX7_join_102 rfl rfl ?_
      refine j_goto C 111 dX7_join_103 rfl ?_
      exact j_rl C dX7_join_111 rfl (Option.some.inj h).symm rfl
  refine j_lks (off := 123) C 124 dX7_join_1 (by decide) (by simp only [Op.lookupswitch.offset]; repeat rw [if_neg (by omega)]) rfl ?_
  refine j_lconst (v := 0) C dX7_join_124 rfl rfl ?_
  exact j_rl C dX7_join_125 rfl (Option.some.inj h).symm rfl
theorem dX7_worth_0 : decode cX7_worth 0 = .ok (.aload_n 0, 1) := by decide +kernel
theorem dX7_worth_1 : decode cX7_worth 1 = .ok (.iload_n 1, 1) := by decide +kernel
theorem dX7_worth_2 : decode cX7_worth 2 = .ok (.invokevirtual 37, 3) := by decide +kernel
theorem dX7_worth_5 : decode cX7_worth 5 = .ok (.ifCond .ne 5, 3) := by decide +kernel
theorem dX7_worth_8 : decode cX7_worth 8 = .ok (.iconst 0, 1) := by decide +kernel
theorem dX7_worth_9 : decode cX7_worth 9 = .ok (.ireturn, 1) := by decide +kernel
theorem dX7_worth_10 : decode cX7_worth 10 = .ok (.iconst 0, 1) := by decide +kernel
theorem dX7_worth_11 : decode cX7_worth 11 = .ok (.istore_n 3, 1) := by decide +kernel
theorem dX7_worth_12 : decode cX7_worth 12 = .ok (.aload_n 0, 1) := by decide +kernel
theorem dX7_worth_13 : decode cX7_worth 13 = .ok (.getfield 22, 3) := by decide +kernel
theorem dX7_worth_16 : decode cX7_worth 16 = .ok (.iload_n 1, 1) := by decide +kernel
theorem dX7_worth_17 : decode cX7_worth 17 = .ok (.iaload, 1) := by decide +kernel
theorem dX7_worth_18 : decode cX7_worth 18 = .ok (.istore 4, 2) := by decide +kernel
theorem dX7_worth_20 : decode cX7_worth 20 = .ok (.iload 4, 2) := by decide +kernel
theorem dX7_worth_22 : decode cX7_worth 22 = .ok (.aload_n 0, 1) := by decide +kernel
theorem dX7_worth_23 : decode cX7_worth 23 = .ok (.getfield 25, 3) := by decide +kernel
theorem dX7_worth_26 : decode cX7_worth 26 = .ok (.iload_n 1, 1) := by decide +kernel
theorem dX7_worth_27 : decode cX7_worth 27 = .ok (.iaload, 1) := by decide +kernel
theorem dX7_worth_28 : decode cX7_worth 28 = .ok (.if_icmp .ge 115, 3) := by decide +kernel
theorem dX7_worth_31 : decode cX7_worth 31 = .ok (.aload_n 0, 1) := by decide +kernel
theorem dX7_worth_32 : decode cX7_worth 32 = .ok (.getfield 9, 3) := by decide +kernel
theorem dX7_worth_35 : decode cX7_worth 35 = .ok (.iload 4, 2) := by decide +kernel
theorem dX7_worth_37 : decode cX7_worth 37 = .ok (.iaload, 1) := by decide +kernel
theorem dX7_worth_38 : decode cX7_worth 38 = .ok (.istore 5, 2) := by decide +kernel
theorem dX7_worth_40 : decode cX7_worth 40 = .ok (.iload 5, 2) := by decide +kernel
theorem dX7_worth_42 : decode cX7_worth 42 = .ok (.bipush (-10), 2) := by decide +kernel
theorem dX7_worth_44 : decode cX7_worth 44 = .ok (.if_icmp .lt 39, 3) := by decide +kernel
theorem dX7_worth_47 : decode cX7_worth 47 = .ok (.iload_n 3, 1) := by decide +kernel
theorem dX7_worth_48 : decode cX7_worth 48 = .ok (.bipush 64, 2) := by decide +kernel
theorem dX7_worth_50 : decode cX7_worth 50 = .ok (.if_icmp .ge 87, 3) := by decide +kernel
theorem dX7_worth_53 : decode cX7_worth 53 = .ok (.aload_n 0, 1) := by decide +kernel
theorem dX7_worth_54 : decode cX7_worth 54 = .ok (.getfield 28, 3) := by decide +kernel
theorem dX7_worth_57 : decode cX7_worth 57 = .ok (.iload_n 3, 1) := by decide +kernel
theorem dX7_worth_58 : decode cX7_worth 58 = .ok (.iload 5, 2) := by decide +kernel
theorem dX7_worth_60 : decode cX7_worth 60 = .ok (.ifCond .lt 8, 3) := by decide +kernel
theorem dX7_worth_63 : decode cX7_worth 63 = .ok (.iload 5, 2) := by decide +kernel
theorem dX7_worth_65 : decode cX7_worth 65 = .ok (.goto 11, 3) := by decide +kernel
theorem dX7_worth_68 : decode cX7_worth 68 = .ok (.aload_n 2, 1) := by decide +kernel
theorem dX7_worth_69 : decode cX7_worth 69 = .ok (.iconst (-1), 1) := by decide +kernel
theorem dX7_worth_70 : decode cX7_worth 70 = .ok (.iload 5, 2) := by decide +kernel
theorem dX7_worth_72 : decode cX7_worth 72 = .ok (.isub, 1) := by decide +kernel
theorem dX7_worth_73 : decode cX7_worth 73 = .ok (.invokestatic 41, 3) := by decide +kernel
theorem dX7_worth_76 : decode cX7_worth 76 = .ok (.iastore, 1) := by decide +kernel
theorem dX7_worth_77 : decode cX7_worth 77 = .ok (.iinc 3 1, 3) := by decide +kernel
theorem dX7_worth_80 : decode cX7_worth 80 = .ok (.goto 57, 3) := by decide +kernel
theorem dX7_worth_83 : decode cX7_worth 83 = .ok (.iload_n 3, 1) := by decide +kernel
theorem dX7_worth_84 : decode cX7_worth 84 = .ok (.iconst 2, 1) := by decide +kernel
theorem dX7_worth_85 : decode cX7_worth 85 = .ok (.if_icmp .lt 52, 3) := by decide +kernel
theorem dX7_worth_88 : decode cX7_worth 88 = .ok (.iinc 3 (-1), 3) := by decide +kernel
theorem dX7_worth_91 : decode cX7_worth 91 = .ok (.iload 5, 2) := by decide +kernel
theorem dX7_worth_93 : decode cX7_worth 93 = .ok (.aload_n 0, 1) := by decide +kernel
theorem dX7_worth_94 : decode cX7_worth 94 = .ok (.getfield 28, 3) := by decide +kernel
theorem dX7_worth_97 : decode cX7_worth 97 = .ok (.iload_n 3, 1) := by decide +kernel
theorem dX7_worth_98 : decode cX7_worth 98 = .ok (.iconst 1, 1) := by decide +kernel
theorem dX7_worth_99 : decode cX7_worth 99 = .ok (.isub, 1) := by decide +kernel
theorem dX7_worth_100 : decode cX7_worth 100 = .ok (.iaload, 1) := by decide +kernel
theorem dX7_worth_101 : decode cX7_worth 101 = .ok (.i2l, 1) := by decide +kernel
theorem dX7_worth_102 : decode cX7_worth 102 = .ok (.aload_n 0, 1) := by decide +kernel
theorem dX7_worth_103 : decode cX7_worth 103 = .ok (.getfield 28, 3) := by decide +kernel
theorem dX7_worth_106 : decode cX7_worth 106 = .ok (.iload_n 3, 1) := by decide +kernel
theorem dX7_worth_107 : decode cX7_worth 107 = .ok (.iaload, 1) := by decide +kernel
theorem dX7_worth_108 : decode cX7_worth 108 = .ok (.i2l, 1) := by decide +kernel
theorem dX7_worth_109 : decode cX7_worth 109 = .ok (.invokestatic 45, 3) := by decide +kernel
theorem dX7_worth_112 : decode cX7_worth 112 = .ok (.lstore 6, 2) := by decide +kernel
theorem dX7_worth_114 : decode cX7_worth 114 = .ok (.aload_n 0, 1) := by decide +kernel
theorem dX7_worth_115 : decode cX7_worth 115 = .ok (.getfield 28, 3) := by decide +kernel
theorem dX7_worth_118 : decode cX7_worth 118 = .ok (.iload_n 3, 1) := by decide +kernel
theorem dX7_worth_119 : decode cX7_worth 119 = .ok (.iconst 1, 1) := by decide +kernel
theorem dX7_worth_120 : decode cX7_worth 120 = .ok (.isub, 1) := by decide +kernel
theorem dX7_worth_121 : decode cX7_worth 121 = .ok (.ldc2_w 49, 3) := by decide +kernel
theorem dX7_worth_124 : decode cX7_worth 124 = .ok (.lload 6, 2) := by decide +kernel
theorem dX7_worth_126 : decode cX7_worth 126 = .ok (.ldc2_w 51, 3) := by decide +kernel
theorem dX7_worth_129 : decode cX7_worth 129 = .ok (.invokestatic 53, 3) := by decide +kernel
theorem dX7_worth_132 : decode cX7_worth 132 = .ok (.invokestatic 59, 3) := by decide +kernel
theorem dX7_worth_135 : decode cX7_worth 135 = .ok (.l2i, 1) := by decide +kernel
theorem dX7_worth_136 : decode cX7_worth 136 = .ok (.iastore, 1) := by decide +kernel
theorem dX7_worth_137 : decode cX7_worth 137 = .ok (.iinc 4 1, 3) := by decide +kernel
theorem dX7_worth_140 : decode cX7_worth 140 = .ok (.goto (-120), 3) := by decide +kernel
theorem dX7_worth_143 : decode cX7_worth 143 = .ok (.iload_n 3, 1) := by decide +kernel
theorem dX7_worth_144 : decode cX7_worth 144 = .ok (.ifCond .le 12, 3) := by decide +kernel
theorem dX7_worth_147 : decode cX7_worth 147 = .ok (.aload_n 0, 1) := by decide +kernel
theorem dX7_worth_148 : decode cX7_worth 148 = .ok (.getfield 28, 3) := by decide +kernel
theorem dX7_worth_151 : decode cX7_worth 151 = .ok (.iconst 0, 1) := by decide +kernel
theorem dX7_worth_152 : decode cX7_worth 152 = .ok (.iaload, 1) := by decide +kernel
theorem dX7_worth_153 : decode cX7_worth 153 = .ok (.goto 4, 3) := by decide +kernel
theorem dX7_worth_156 : decode cX7_worth 156 = .ok (.iconst 0, 1) := by decide +kernel
theorem dX7_worth_157 : decode cX7_worth 157 = .ok (.ireturn, 1) := by decide +kernel
set_option maxRecDepth 100000 in
set_option maxHeartbeats 4000000 in
theorem X7_worth_J137_ok {g : Gm} {w : Wd} (C : Cx g w RX7 cX7_worth 8 (some .int)) {lv : Nat} (hlv : 2 < lv) {N : Nat} {r20 : Nat → Int → Nat → Int → Int → Mem → Option (Int × Mem) } {l0 : Nat} {l1 : Int} {l2 : Nat} {l3 : Int} {l4 : Int} {m : Mem} {out : (Int × Mem)} (hr20 : ∀ l0 l1 l2 l3 l4 m, r20 l0 l1 l2 l3 l4 m = some out → Jd g w 8 (rmL lv 0 0) (Qm g w (some (vI out.1)) out.2) 20 [some (vR l0), some (vI l1), some (vR l2), some (vI l3), some (vI l4), none, none, none] [] 312 m 0 0) (h : X7_worth_J137 N r20 l0 l1 l2 l3 l4 m = some out) : Jd g w 8 (rmL lv 0 0) (Qm g w (some (vI out.1)) out.2) 137 [some (vR l0), some (vI l1), some (vR l2), some (vI l3), some (vI l4), none, none, none] [] 312 m 0 0 := by
  unfold X7_worth_J137 at h
  refine j_iinc (ls' := [some (vR _), some (vI _), some (vR _), some (vI _), some (vI _), none, none, none]) C dX7_worth_137 rfl (by decide) rfl ?_
  refine j_goto C 20 dX7_worth_140 rfl ?_
  exact hr20 _ _ _ _ _ _ h
set_option maxRecDepth 100000 in
set_option maxHeartbeats 4000000 in
theorem X7_worth_J76_ok {g : Gm} {w : Wd} (C : Cx g w RX7 cX7_worth 8 (some .int)) {lv : Nat} (hlv : 2 < lv) {N : Nat} {r20 : Nat → Int → Nat → Int → Int → Mem → Option (Int × Mem) } {l0 : Nat} {l1 : Int} {l2 : Nat} {l3 : Int} {l4 : Int} {s0 : Nat} {s1 : Int} {s2 : Int} {m : Mem} {out : (Int × Mem)} (hr20 : ∀ l0 l1 l2 l3 l4 m, r20 l0 l1 l2 l3 l4 m = some out → Jd g w 8 (rmL lv 0 0) (Qm g w (some (vI out.1)) out.2) 20 [some (vR l0), some (vI l1), some (vR l2), some (vI l3), some (vI l4), none, none, none] [] 312 m 0 0) (h : X7_worth_J76 N r20 l0 l1 l2 l3 l4 s0 s1 s2 m = some out) : Jd g w 8 (rmL lv 0 0) (Qm g w (some (vI out.1)) out.2) 76 [some (vR l0), some (vI l1), some (vR l2), some (vI l3), some (vI l4), none, none, none] [vI s2, vI s1, vR s0] 312 m 0 0 := by
  unfold X7_worth_J76 at h
  refine j_iast C dX7_worth_76 rfl h (fun m18 h => ?_)
  refine j_iinc (ls' := [some (vR _), some (vI _), some (vR _), some (vI _), some (vI _), none, none, none]) C dX7_worth_77 rfl (by decide) rfl ?_
  refine j_goto C 137 dX7_worth_80 rfl ?_
  exact X7_worth_J137_ok C hlv hr20 h
set_option maxRecDepth 100000 in
set_option maxHeartbeats 4000000 in
theorem X7_worth_L20_bok {g : Gm} {w : Wd} (C : Cx g w RX7 cX7_worth 8 (some .int)) {lv : Nat} (hlv : 2 < lv) {N : Nat} {k143 : Nat → Int → Mem → Option (Int × Mem)} {r20 : Nat → Int → Nat → Int → Int → Mem → Option (Int × Mem)} {l0 : Nat} {l1 : Int} {l2 : Nat} {l3 : Int} {l4 : Int} {m : Mem} {out : (Int × Mem)} (hk143 : ∀ l0 l3 m, k143 l0 l3 m = some out → Jd g w 8 (rmL lv 0 0) (Qm g w (some (vI out.1)) out.2) 143 [some (vR l0), none, none, some (vI l3), none, none, none, none] [] 312 m 0 0) (hr20 : ∀ l0 l1 l2 l3 l4 m, r20 l0 l1 l2 l3 l4 m = some out → Jd g w 8 (rmL lv 0 0) (Qm g w (some (vI out.1)) out.2) 20 [some (vR l0), some (vI l1), some (vR l2), some (vI l3), some (vI l4), none, none, none] [] 312 m 0 0) (h : X7_worth_L20_b N k143 r20 l0 l1 l2 l3 l4 m = some out) : Jd g w 8 (rmL lv 0 0) (Qm g w (some (vI out.1)) out.2) 20 [some (vR l0), some (vI l1), some (vR l2), some (vI l3), some (vI l4), none, none, none] [] 312 m 0 0 := by
  unfold X7_worth_L20_b at h
  refine j_iload C dX7_worth_20 rfl ?_
  refine j_aload_n C dX7_worth_22 rfl ?_
  refine j_getR C dX7_worth_23 CF7 (by decide) fl_X7_25 rfl rfl h (fun t4 h => ?_)
  refine j_iload_n C dX7_worth_26 rfl ?_
  refine j_iald C dX7_worth_27 rfl h (fun t5 h => ?_)
  refine j_icmp_ge C 143 dX7_worth_28 rfl h (fun c22 h => ?_) (fun c22 h => ?_)
  · refine j_mask [true, false, false, true, false, false, false, false] (ls' := [some (vR _), none, none, some (vI _), none, none, none, none]) rfl ?_
    exact hk143 _ _ _ h
  · refine j_aload_n C dX7_worth_31 rfl ?_
    refine j_getR C dX7_worth_32 CF7 (by decide) fl_X7_9 rfl rfl h (fun t6 h => ?_)
    refine j_iload C dX7_worth_35 rfl ?_
    refine j_iald C dX7_worth_37 rfl h (fun t7 h => ?_)
    refine j_istore (ls' := [some (vR _), some (vI _), some (vR _), some (vI _), some (vI _), some (vI _), none, none]) C dX7_worth_38 (by decide) rfl ?_
    refine j_iload C dX7_worth_40 rfl ?_
    refine j_bipush C dX7_worth_42 rfl ?_
    refine j_icmp_lt C 83 dX7_worth_44 rfl h (fun c21 h => ?_) (fun c21 h => ?_)
    · refine j_iload_n C dX7_worth_83 rfl ?_
      refine j_iconst C dX7_worth_84 rfl ?_
      refine j_icmp_lt C 137 dX7_worth_85 rfl h (fun c15 h => ?_) (fun c15 h => ?_)
      · refine j_mask [true, true, true, true, true, false, false, false] (ls' := [some (vR _), some (vI _), some (vR _), some (vI _), some (vI _), none, none, none]) rfl ?_
        exact X7_worth_J137_ok C hlv hr20 h
      · refine j_iinc (ls' := [some (vR _), some (vI _), some (vR _), some (vI _), some (vI _), some (vI _), none, none]) C dX7_worth_88 rfl (by decide) rfl ?_
        refine j_iload C dX7_worth_91 rfl ?_
        refine j_aload_n C dX7_worth_93 rfl ?_
        refine j_getR C dX7_worth_94 CF7 (by decide) fl_X7_28 rfl rfl h (fun t8 h => ?_)
        refine j_iload_n C dX7_worth_97 rfl ?_
        refine j_iconst C dX7_worth_98 rfl ?_
        refine j_isub C dX7_worth_99 ?_
        refine j_iald C dX7_worth_100 rfl h (fun t9 h => ?_)
        refine j_i2l C dX7_worth_101 ?_
        refine j_aload_n C dX7_worth_102 rfl ?_
        refine j_getR C dX7_worth_103 CF7 (by decide) fl_X7_28 rfl rfl h (fun t10 h => ?_)
        refine j_iload_n C dX7_worth_106 rfl ?_
        refine j_iald C dX7_worth_107 rfl h (fun t11 h => ?_)
        refine j_i2l C dX7_worth_108 ?_
        obtain ⟨p12, ep12, h⟩ := bind_some h
        have qp12 := X7_join_ct ep12
        refine j_cSL C dX7_worth_109 sl_X7_45 qp12 (by omega) rfl rfl (Nat.le_of_ble_eq_true rfl) ?_
        refine j_lstore (ls' := [some (vR _), some (vI _), some (vR _), some (vI _), some (vI _), some (vI _), some (vL _), none]) C dX7_worth_112 (by decide) rfl ?_
        refine j_aload_n C dX7_worth_114 rfl ?_
        refine j_getR C dX7_worth_115 CF7 (by decide) fl_X7_28 rfl rfl h (fun t13 h => ?_)
        refine j_iload_n C dX7_worth_118 rfl ?_
        refine j_iconst C dX7_worth_119 rfl ?_
        refine j_isub C dX7_worth_120 ?_
        refine j_ldc2 (v := -1000000) C dX7_worth_121 k_X7_49 rfl rfl ?_
        refine j_lload C dX7_worth_124 rfl ?_
        refine j_ldc2 (v := 1000000) C dX7_worth_126 k_X7_51 rfl rfl ?_
        refine j_lmin C dX7_worth_129 ml_X7_53 rfl (by omega) (Nat.le_refl 0) (Nat.le_refl 0) (Nat.le_of_ble_eq_true rfl) ?_
        refine j_lmax C dX7_worth_132 ml_X7_59 rfl (by omega) (Nat.le_refl 0) (Nat.le_refl 0) (Nat.le_of_ble_eq_true rfl) ?_
        refine j_l2i C dX7_worth_135 ?_
        refine j_iast C dX7_worth_136 rfl h (fun m14 h => ?_)
        refine j_mask [true, true, true, true, true, false, false, false] (ls' := [some (vR _), some (vI _), some (vR _), some (vI _), some (vI _), none, none, none]) rfl ?_
        exact X7_worth_J137_ok C hlv hr20 h
    · refine j_iload_n C dX7_worth_47 rfl ?_
      refine j_bipush C dX7_worth_48 rfl ?_
      refine j_icmp_ge C 137 dX7_worth_50 rfl h (fun c20 h => ?_) (fun c20 h => ?_)
      · refine j_mask [true, true, true, true, true, false, false, false] (ls' := [some (vR _), some (vI _), some (vR _), some (vI _), some (vI _), none, none, none]) rfl ?_
        exact X7_worth_J137_ok C hlv hr20 h
      · refine j_aload_n C dX7_worth_53 rfl ?_
        refine j_getR C dX7_worth_54 CF7 (by decide) fl_X7_28 rfl rfl h (fun t16 h => ?_)
        refine j_iload_n C dX7_worth_57 rfl ?_
        refine j_iload C dX7_worth_58 rfl ?_
        refine j_if_lt C 68 dX7_worth_60 rfl h (fun c19 h => ?_) (fun c19 h => ?_)
        · refine j_aload_n C dX7_worth_68 rfl ?_
          refine j_iconst C dX7_worth_69 rfl ?_
          refine j_iload C dX7_worth_70 rfl ?_
          refine j_isub C dX7_worth_72 ?_
          obtain ⟨p17, ep17, h⟩ := bind_some h
          have qp17 := X7_factAt_ct ep17
          refine j_cSI C dX7_worth_73 sl_X7_41 qp17 (by omega) rfl rfl (Nat.le_of_ble_eq_true rfl) ?_
          refine j_mask [true, true, true, true, true, false, false, false] (ls' := [some (vR _), some (vI _), some (vR _), some (vI _), some (vI _), none, none, none]) rfl ?_
          exact X7_worth_J76_ok C hlv hr20 h
        · refine j_iload C dX7_worth_63 rfl ?_
          refine j_goto C 76 dX7_worth_65 rfl ?_
          refine j_mask [true, true, true, true, true, false, false, false] (ls' := [some (vR _), some (vI _), some (vR _), some (vI _), some (vI _), none, none, none]) rfl ?_
          exact X7_worth_J76_ok C hlv hr20 h
set_option maxRecDepth 100000 in
set_option maxHeartbeats 4000000 in
theorem X7_worth_L20_ok {g : Gm} {w : Wd} (C : Cx g w RX7 cX7_worth 8 (some .int)) {lv : Nat} (hlv : 2 < lv) {N : Nat} {k143 : Nat → Int → Mem → Option (Int × Mem)} {out : (Int × Mem)} (hk143 : ∀ l0 l3 m, k143 l0 l3 m = some out → Jd g w 8 (rmL lv 0 0) (Qm g w (some (vI out.1)) out.2) 143 [some (vR l0), none, none, some (vI l3), none, none, none, none] [] 312 m 0 0) (f : Nat) : ∀ {l0 : Nat} {l1 : Int} {l2 : Nat} {l3 : Int} {l4 : Int} {m : Mem}, X7_worth_L20 N k143 f l0 l1 l2 l3 l4 m = some out → Jd g w 8 (rmL lv 0 0) (Qm g w (some (vI out.1)) out.2) 20 [some (vR l0), some (vI l1), some (vR l2), some (vI l3), some (vI l4), none, none, none] [] 312 m 0 0 := by
  induction f with
  | zero => intro l0 l1 l2 l3 l4 m h; exact none_ne (α := (Int × Mem)) h
  | succ f ih => intro l0 l1 l2 l3 l4 m h; exact X7_worth_L20_bok C hlv hk143 (fun l0 l1 l2 l3 l4 m h => ih h) h
set_option maxRecDepth 100000 in
set_option maxHeartbeats 4000000 in
theorem X7_worth_ct {N : Nat} {l0 : Nat} {l1 : Int} {l2 : Nat} {m : Mem} {out : (Int × Mem)} (h : X7_worth N l0 l1 l2 m = some out) : shK l0 = 7 + 10 ∧ CT yX7_worth cX7_worth 8 (some .int) 3 0 0 [vR l0, vI l1, vR l2] 312 m (some (vI out.1)) 312 out.2 := by
  unfold X7_worth at h
  obtain ⟨hK, h⟩ := ite_some h
  have hlv : 2 < 3 := by decide
  refine ⟨hK, CT.of (by decide +kernel) rfl (Nat.le_of_ble_eq_true rfl) (ls := [some (vR l0), some (vI l1), some (vR l2), none, none, none, none, none]) rfl fun g w C _ => ?_⟩
  refine j_aload_n C dX7_worth_0 rfl ?_
  refine j_iload_n C dX7_worth_1 rfl ?_
  obtain ⟨p1, ep1, h⟩ := bind_some h
  have qp1 := X7_isTold_ct ep1
  refine j_cVI C dX7_worth_2 vl_X7_37 CF7 rfl qp1.1 qp1.2 (by omega) rfl rfl (Nat.le_of_ble_eq_true rfl) ?_
  refine j_if_ne C 10 dX7_worth_5 rfl h (fun c29 h => ?_) (fun c29 h => ?_)
  · refine j_iconst C dX7_worth_10 rfl ?_
    refine j_istore_n (ls' := [some (vR _), some (vI _), some (vR _), some (vI _), none, none, none, none]) C dX7_worth_11 (by decide) rfl ?_
    refine j_aload_n C dX7_worth_12 rfl ?_
    refine j_getR C dX7_worth_13 CF7 (by decide) fl_X7_22 rfl rfl h (fun t2 h => ?_)
    refine j_iload_n C dX7_worth_16 rfl ?_
    refine j_iald C dX7_worth_17 rfl h (fun t3 h => ?_)
    refine j_istore (ls' := [some (vR _), some (vI _), some (vR _), some (vI _), some (vI _), none, none, none]) C dX7_worth_18 (by decide) rfl ?_
    refine X7_worth_L20_ok C hlv (fun z23 z24 m25 h => ?_) N h
    refine j_iload_n C dX7_worth_143 rfl ?_
    refine j_if_le C 156 dX7_worth_144 rfl h (fun c28 h => ?_) (fun c28 h => ?_)
    · refine j_iconst C dX7_worth_156 rfl ?_
      have e := Option.some.inj h
      subst e
      exact j_ri C dX7_worth_157 rfl rfl rfl
    · refine j_aload_n C dX7_worth_147 rfl ?_
      refine j_getR C dX7_worth_148 CF7 (by decide) fl_X7_28 rfl rfl h (fun t26 h => ?_)
      refine j_iconst C dX7_worth_151 rfl ?_
      refine j_iald C dX7_worth_152 rfl h (fun t27 h => ?_)
      refine j_goto C 157 dX7_worth_153 rfl ?_
      have e := Option.some.inj h
      subst e
      exact j_ri C dX7_worth_157 rfl rfl rfl
  · refine j_iconst C dX7_worth_8 rfl ?_
    have e := Option.some.inj h
    subst e
    exact j_ri C dX7_worth_9 rfl rfl rfl
theorem dX10_within_0 : decode cX10_within 0 = .ok (.iload_n 0, 1) := by decide +kernel
theorem dX10_within_1 : decode cX10_within 1 = .ok (.iload_n 1, 1) := by decide +kernel
theorem dX10_within_2 : decode cX10_within 2 = .ok (.iload_n 2, 1) := by decide +kernel
theorem dX10_within_3 : decode cX10_within 3 = .ok (.invokestatic 435, 3) := by decide +kernel
theorem dX10_within_6 : decode cX10_within 6 = .ok (.invokestatic 378, 3) := by decide +kernel
theorem dX10_within_9 : decode cX10_within 9 = .ok (.ireturn, 1) := by decide +kernel
set_option maxRecDepth 100000 in
set_option maxHeartbeats 4000000 in
theorem X10_within_ct {l0 : Int} {l1 : Int} {l2 : Int} {m : Mem} {out : Int} (h : X10_within l0 l1 l2 m = some out) : CT yX10_within cX10_within 3 (some .int) 1 0 0 [vI l0, vI l1, vI l2] 312 m (some (vI out)) 312 m := by
  unfold X10_within at h
  have hlv : 0 < 1 := by decide
  refine CT.of (by decide +kernel) rfl (Nat.le_of_ble_eq_true rfl) (ls := [some (vI l0), some (vI l1), some (vI l2)]) rfl fun g w C _ => ?_
  refine j_iload_n C dX10_within_0 rfl ?_
  refine j_iload_n C dX10_within_1 rfl ?_
  refine j_iload_n C dX10_within_2 rfl ?_
  refine j_mmin C dX10_within_3 ml_X10_435 rfl (by omega) (Nat.le_refl 0) (Nat.le_refl 0) (Nat.le_of_ble_eq_true rfl) ?_
  refine j_mmax C dX10_within_6 ml_X10_378 rfl (by omega) (Nat.le_refl 0) (Nat.le_refl 0) (Nat.le_of_ble_eq_true rfl) ?_
  exact j_ri C dX10_within_9 rfl (Option.some.inj h).symm rfl
theorem dX3_lie_0 : decode cX3_lie 0 = .ok (.aload_n 1, 1) := by decide +kernel
theorem dX3_lie_1 : decode cX3_lie 1 = .ok (.iload_n 3, 1) := by decide +kernel
theorem dX3_lie_2 : decode cX3_lie 2 = .ok (.invokevirtual 104, 3) := by decide +kernel
theorem dX3_lie_5 : decode cX3_lie 5 = .ok (.ifCond .eq 15, 3) := by decide +kernel
theorem dX3_lie_8 : decode cX3_lie 8 = .ok (.iload 5, 2) := by decide +kernel
theorem dX3_lie_10 : decode cX3_lie 10 = .ok (.ifCond .lt 10, 3) := by decide +kernel
theorem dX3_lie_13 : decode cX3_lie 13 = .ok (.iload 5, 2) := by decide +kernel
theorem dX3_lie_15 : decode cX3_lie 15 = .ok (.bipush 10, 2) := by decide +kernel
theorem dX3_lie_17 : decode cX3_lie 17 = .ok (.if_icmp .le 5, 3) := by decide +kernel
theorem dX3_lie_20 : decode cX3_lie 20 = .ok (.iconst 0, 1) := by decide +kernel
theorem dX3_lie_21 : decode cX3_lie 21 = .ok (.ireturn, 1) := by decide +kernel
theorem dX3_lie_22 : decode cX3_lie 22 = .ok (.aload_n 0, 1) := by decide +kernel
theorem dX3_lie_23 : decode cX3_lie 23 = .ok (.getfield 26, 3) := by decide +kernel
theorem dX3_lie_26 : decode cX3_lie 26 = .ok (.bipush 9, 2) := by decide +kernel
theorem dX3_lie_28 : decode cX3_lie 28 = .ok (.iload 4, 2) := by decide +kernel
theorem dX3_lie_30 : decode cX3_lie 30 = .ok (.iastore, 1) := by decide +kernel
theorem dX3_lie_31 : decode cX3_lie 31 = .ok (.aload_n 0, 1) := by decide +kernel
theorem dX3_lie_32 : decode cX3_lie 32 = .ok (.getfield 26, 3) := by decide +kernel
theorem dX3_lie_35 : decode cX3_lie 35 = .ok (.iconst 0, 1) := by decide +kernel
theorem dX3_lie_36 : decode cX3_lie 36 = .ok (.aload_n 1, 1) := by decide +kernel
theorem dX3_lie_37 : decode cX3_lie 37 = .ok (.aload_n 2, 1) := by decide +kernel
theorem dX3_lie_38 : decode cX3_lie 38 = .ok (.iload_n 3, 1) := by decide +kernel
theorem dX3_lie_39 : decode cX3_lie 39 = .ok (.invokevirtual 107, 3) := by decide +kernel
theorem dX3_lie_42 : decode cX3_lie 42 = .ok (.iastore, 1) := by decide +kernel
theorem dX3_lie_43 : decode cX3_lie 43 = .ok (.aload_n 0, 1) := by decide +kernel
theorem dX3_lie_44 : decode cX3_lie 44 = .ok (.getfield 26, 3) := by decide +kernel
theorem dX3_lie_47 : decode cX3_lie 47 = .ok (.iconst 1, 1) := by decide +kernel
theorem dX3_lie_48 : decode cX3_lie 48 = .ok (.aload_n 1, 1) := by decide +kernel
theorem dX3_lie_49 : decode cX3_lie 49 = .ok (.getfield 110, 3) := by decide +kernel
theorem dX3_lie_52 : decode cX3_lie 52 = .ok (.iload_n 3, 1) := by decide +kernel
theorem dX3_lie_53 : decode cX3_lie 53 = .ok (.iaload, 1) := by decide +kernel
theorem dX3_lie_54 : decode cX3_lie 54 = .ok (.iastore, 1) := by decide +kernel
theorem dX3_lie_55 : decode cX3_lie 55 = .ok (.aload_n 0, 1) := by decide +kernel
theorem dX3_lie_56 : decode cX3_lie 56 = .ok (.getfield 26, 3) := by decide +kernel
theorem dX3_lie_59 : decode cX3_lie 59 = .ok (.bipush 7, 2) := by decide +kernel
theorem dX3_lie_61 : decode cX3_lie 61 = .ok (.aload_n 1, 1) := by decide +kernel
theorem dX3_lie_62 : decode cX3_lie 62 = .ok (.iload_n 3, 1) := by decide +kernel
theorem dX3_lie_63 : decode cX3_lie 63 = .ok (.invokevirtual 113, 3) := by decide +kernel
theorem dX3_lie_66 : decode cX3_lie 66 = .ok (.iastore, 1) := by decide +kernel
theorem dX3_lie_67 : decode cX3_lie 67 = .ok (.iconst 0, 1) := by decide +kernel
theorem dX3_lie_68 : decode cX3_lie 68 = .ok (.istore 6, 2) := by decide +kernel
theorem dX3_lie_70 : decode cX3_lie 70 = .ok (.iconst 1, 1) := by decide +kernel
theorem dX3_lie_71 : decode cX3_lie 71 = .ok (.istore 7, 2) := by decide +kernel
theorem dX3_lie_73 : decode cX3_lie 73 = .ok (.iload 7, 2) := by decide +kernel
theorem dX3_lie_75 : decode cX3_lie 75 = .ok (.bipush 12, 2) := by decide +kernel
theorem dX3_lie_77 : decode cX3_lie 77 = .ok (.if_icmp .gt 138, 3) := by decide +kernel
theorem dX3_lie_80 : decode cX3_lie 80 = .ok (.aload_n 0, 1) := by decide +kernel
theorem dX3_lie_81 : decode cX3_lie 81 = .ok (.iload 7, 2) := by decide +kernel
theorem dX3_lie_83 : decode cX3_lie 83 = .ok (.aload_n 0, 1) := by decide +kernel
theorem dX3_lie_84 : decode cX3_lie 84 = .ok (.iload_n 3, 1) := by decide +kernel
theorem dX3_lie_85 : decode cX3_lie 85 = .ok (.iload 7, 2) := by decide +kernel
theorem dX3_lie_87 : decode cX3_lie 87 = .ok (.invokevirtual 116, 3) := by decide +kernel
theorem dX3_lie_90 : decode cX3_lie 90 = .ok (.invokevirtual 119, 3) := by decide +kernel
theorem dX3_lie_93 : decode cX3_lie 93 = .ok (.aload_n 0, 1) := by decide +kernel
theorem dX3_lie_94 : decode cX3_lie 94 = .ok (.getfield 26, 3) := by decide +kernel
theorem dX3_lie_97 : decode cX3_lie 97 = .ok (.bipush 8, 2) := by decide +kernel
theorem dX3_lie_99 : decode cX3_lie 99 = .ok (.iload 6, 2) := by decide +kernel
theorem dX3_lie_101 : decode cX3_lie 101 = .ok (.iastore, 1) := by decide +kernel
theorem dX3_lie_102 : decode cX3_lie 102 = .ok (.aload_n 0, 1) := by decide +kernel
theorem dX3_lie_103 : decode cX3_lie 103 = .ok (.getfield 31, 3) := by decide +kernel
theorem dX3_lie_106 : decode cX3_lie 106 = .ok (.iload 5, 2) := by decide +kernel
theorem dX3_lie_108 : decode cX3_lie 108 = .ok (.aaload, 1) := by decide +kernel
theorem dX3_lie_109 : decode cX3_lie 109 = .ok (.iload 7, 2) := by decide +kernel
theorem dX3_lie_111 : decode cX3_lie 111 = .ok (.iconst 0, 1) := by decide +kernel
theorem dX3_lie_112 : decode cX3_lie 112 = .ok (.aload_n 1, 1) := by decide +kernel
theorem dX3_lie_113 : decode cX3_lie 113 = .ok (.getfield 123, 3) := by decide +kernel
theorem dX3_lie_116 : decode cX3_lie 116 = .ok (.iconst 0, 1) := by decide +kernel
theorem dX3_lie_117 : decode cX3_lie 117 = .ok (.aload_n 0, 1) := by decide +kernel
theorem dX3_lie_118 : decode cX3_lie 118 = .ok (.getfield 26, 3) := by decide +kernel
theorem dX3_lie_121 : decode cX3_lie 121 = .ok (.invokevirtual 127, 3) := by decide +kernel
theorem dX3_lie_124 : decode cX3_lie 124 = .ok (.bipush 99, 2) := by decide +kernel
theorem dX3_lie_126 : decode cX3_lie 126 = .ok (.invokestatic 131, 3) := by decide +kernel
theorem dX3_lie_129 : decode cX3_lie 129 = .ok (.iastore, 1) := by decide +kernel
theorem dX3_lie_130 : decode cX3_lie 130 = .ok (.iload 6, 2) := by decide +kernel
theorem dX3_lie_132 : decode cX3_lie 132 = .ok (.aload_n 0, 1) := by decide +kernel
theorem dX3_lie_133 : decode cX3_lie 133 = .ok (.getfield 31, 3) := by decide +kernel
theorem dX3_lie_136 : decode cX3_lie 136 = .ok (.iload 5, 2) := by decide +kernel
theorem dX3_lie_138 : decode cX3_lie 138 = .ok (.aaload, 1) := by decide +kernel
theorem dX3_lie_139 : decode cX3_lie 139 = .ok (.iload 7, 2) := by decide +kernel
theorem dX3_lie_141 : decode cX3_lie 141 = .ok (.iaload, 1) := by decide +kernel
theorem dX3_lie_142 : decode cX3_lie 142 = .ok (.iadd, 1) := by decide +kernel
theorem dX3_lie_143 : decode cX3_lie 143 = .ok (.istore 6, 2) := by decide +kernel
theorem dX3_lie_145 : decode cX3_lie 145 = .ok (.aload_n 0, 1) := by decide +kernel
theorem dX3_lie_146 : decode cX3_lie 146 = .ok (.getfield 26, 3) := by decide +kernel
theorem dX3_lie_149 : decode cX3_lie 149 = .ok (.bipush 8, 2) := by decide +kernel
theorem dX3_lie_151 : decode cX3_lie 151 = .ok (.iload 6, 2) := by decide +kernel
theorem dX3_lie_153 : decode cX3_lie 153 = .ok (.iastore, 1) := by decide +kernel
theorem dX3_lie_154 : decode cX3_lie 154 = .ok (.aload_n 0, 1) := by decide +kernel
theorem dX3_lie_155 : decode cX3_lie 155 = .ok (.getfield 34, 3) := by decide +kernel
theorem dX3_lie_158 : decode cX3_lie 158 = .ok (.iload 5, 2) := by decide +kernel
theorem dX3_lie_160 : decode cX3_lie 160 = .ok (.aaload, 1) := by decide +kernel
theorem dX3_lie_161 : decode cX3_lie 161 = .ok (.iload 7, 2) := by decide +kernel
theorem dX3_lie_163 : decode cX3_lie 163 = .ok (.iconst 0, 1) := by decide +kernel
theorem dX3_lie_164 : decode cX3_lie 164 = .ok (.aload_n 1, 1) := by decide +kernel
theorem dX3_lie_165 : decode cX3_lie 165 = .ok (.getfield 123, 3) := by decide +kernel
theorem dX3_lie_168 : decode cX3_lie 168 = .ok (.iconst 1, 1) := by decide +kernel
theorem dX3_lie_169 : decode cX3_lie 169 = .ok (.aload_n 0, 1) := by decide +kernel
theorem dX3_lie_170 : decode cX3_lie 170 = .ok (.getfield 26, 3) := by decide +kernel
theorem dX3_lie_173 : decode cX3_lie 173 = .ok (.invokevirtual 127, 3) := by decide +kernel
theorem dX3_lie_176 : decode cX3_lie 176 = .ok (.iload 6, 2) := by decide +kernel
theorem dX3_lie_178 : decode cX3_lie 178 = .ok (.invokestatic 131, 3) := by decide +kernel
theorem dX3_lie_181 : decode cX3_lie 181 = .ok (.iastore, 1) := by decide +kernel
theorem dX3_lie_182 : decode cX3_lie 182 = .ok (.iload 6, 2) := by decide +kernel
theorem dX3_lie_184 : decode cX3_lie 184 = .ok (.aload_n 0, 1) := by decide +kernel
theorem dX3_lie_185 : decode cX3_lie 185 = .ok (.getfield 34, 3) := by decide +kernel
theorem dX3_lie_188 : decode cX3_lie 188 = .ok (.iload 5, 2) := by decide +kernel
theorem dX3_lie_190 : decode cX3_lie 190 = .ok (.aaload, 1) := by decide +kernel
theorem dX3_lie_191 : decode cX3_lie 191 = .ok (.iload 7, 2) := by decide +kernel
theorem dX3_lie_193 : decode cX3_lie 193 = .ok (.iaload, 1) := by decide +kernel
theorem dX3_lie_194 : decode cX3_lie 194 = .ok (.isub, 1) := by decide +kernel
theorem dX3_lie_195 : decode cX3_lie 195 = .ok (.istore 6, 2) := by decide +kernel
theorem dX3_lie_197 : decode cX3_lie 197 = .ok (.aload_n 0, 1) := by decide +kernel
theorem dX3_lie_198 : decode cX3_lie 198 = .ok (.getfield 37, 3) := by decide +kernel
theorem dX3_lie_201 : decode cX3_lie 201 = .ok (.iload 5, 2) := by decide +kernel
theorem dX3_lie_203 : decode cX3_lie 203 = .ok (.aaload, 1) := by decide +kernel
theorem dX3_lie_204 : decode cX3_lie 204 = .ok (.iload 7, 2) := by decide +kernel
theorem dX3_lie_206 : decode cX3_lie 206 = .ok (.iload 6, 2) := by decide +kernel
theorem dX3_lie_208 : decode cX3_lie 208 = .ok (.iastore, 1) := by decide +kernel
theorem dX3_lie_209 : decode cX3_lie 209 = .ok (.iinc 7 1, 3) := by decide +kernel
theorem dX3_lie_212 : decode cX3_lie 212 = .ok (.goto (-139), 3) := by decide +kernel
theorem dX3_lie_215 : decode cX3_lie 215 = .ok (.iload 6, 2) := by decide +kernel
theorem dX3_lie_217 : decode cX3_lie 217 = .ok (.ireturn, 1) := by decide +kernel
set_option maxRecDepth 100000 in
set_option maxHeartbeats 4000000 in
theorem X3_lie_L73_bok {g : Gm} {w : Wd} (C : Cx g w RX3 cX3_lie 8 (some .int)) {lv : Nat} (hlv : 3 < lv) {N : Nat} {r73 : Nat → Nat → Int → Int → Int → Int → Mem → Option (Int × Mem)} {l0 : Nat} {l1 : Nat} {l3 : Int} {l5 : Int} {l6 : Int} {l7 : Int} {m : Mem} {out : (Int × Mem)} (hr73 : ∀ l0 l1 l3 l5 l6 l7 m, r73 l0 l1 l3 l5 l6 l7 m = some out → Jd g w 8 (rmL lv 0 0) (Qm g w (some (vI out.1)) out.2) 73 [some (vR l0), some (vR l1), none, some (vI l3), none, some (vI l5), some (vI l6), some (vI l7)] [] 312 m 0 0) (h : X3_lie_L73_b N r73 l0 l1 l3 l5 l6 l7 m = some out) : Jd g w 8 (rmL lv 0 0) (Qm g w (some (vI out.1)) out.2) 73 [some (vR l0), some (vR l1), none, some (vI l3), none, some (vI l5), some (vI l6), some (vI l7)] [] 312 m 0 0 := by
  unfold X3_lie_L73_b at h
  refine j_iload C dX3_lie_73 rfl ?_
  refine j_bipush C dX3_lie_75 rfl ?_
  refine j_icmp_gt C 215 dX3_lie_77 rfl h (fun c43 h => ?_) (fun c43 h => ?_)
  · refine j_iload C dX3_lie_215 rfl ?_
    have e := Option.some.inj h
    subst e
    exact j_ri C dX3_lie_217 rfl rfl rfl
  · refine j_aload_n C dX3_lie_80 rfl ?_
    refine j_iload C dX3_lie_81 rfl ?_
    refine j_aload_n C dX3_lie_83 rfl ?_
    refine j_iload_n C dX3_lie_84 rfl ?_
    refine j_iload C dX3_lie_85 rfl ?_
    obtain ⟨p14, ep14, h⟩ := bind_some h
    have qp14 := X3_coldIn_ct ep14
    refine j_cVI C dX3_lie_87 vl_X3_116 CF3 rfl qp14.1 qp14.2 (by omega) rfl rfl (Nat.le_of_ble_eq_true rfl) ?_
    obtain ⟨p15, ep15, h⟩ := bind_some h
    have qp15 := X3_lookUp_ct ep15
    refine j_cVV C dX3_lie_90 vl_X3_119 CF3 rfl qp15.1 qp15.2 (by omega) rfl rfl (Nat.le_of_ble_eq_true rfl) ?_
    refine j_aload_n C dX3_lie_93 rfl ?_
    refine j_getR C dX3_lie_94 CF3 (by decide) fl_X3_26 rfl rfl h (fun t16 h => ?_)
    refine j_bipush C dX3_lie_97 rfl ?_
    refine j_iload C dX3_lie_99 rfl ?_
    refine j_iast C dX3_lie_101 rfl h (fun m17 h => ?_)
    refine j_aload_n C dX3_lie_102 rfl ?_
    refine j_getR C dX3_lie_103 CF3 (by decide) fl_X3_31 rfl rfl h (fun t18 h => ?_)
    refine j_iload C dX3_lie_106 rfl ?_
    refine j_aald C dX3_lie_108 rfl h (fun t19 h => ?_)
    refine j_iload C dX3_lie_109 rfl ?_
    refine j_iconst C dX3_lie_111 rfl ?_
    refine j_aload_n C dX3_lie_112 rfl ?_
    refine j_getR C dX3_lie_113 CF5 (by decide) fl_X3_123 rfl rfl h (fun t20 h => ?_)
    refine j_iconst C dX3_lie_116 rfl ?_
    refine j_aload_n C dX3_lie_117 rfl ?_
    refine j_getR C dX3_lie_118 CF3 (by decide) fl_X3_26 rfl rfl h (fun t21 h => ?_)
    obtain ⟨p22, ep22, h⟩ := bind_some h
    have qp22 := X7_worth_ct ep22
    refine j_cVI C dX3_lie_121 vl_X3_127 CF7 rfl qp22.1 qp22.2 (by omega) rfl rfl (Nat.le_of_ble_eq_true rfl) ?_
    refine j_bipush C dX3_lie_124 rfl ?_
    obtain ⟨p23, ep23, h⟩ := bind_some h
    have qp23 := X10_within_ct ep23
    refine j_cSNI C dX3_lie_126 nl_X3_131 qp23 (by omega) rfl rfl (Nat.le_of_ble_eq_true rfl) ?_
    refine j_iast C dX3_lie_129 rfl h (fun m24 h => ?_)
    refine j_iload C dX3_lie_130 rfl ?_
    refine j_aload_n C dX3_lie_132 rfl ?_
    refine j_getR C dX3_lie_133 CF3 (by decide) fl_X3_31 rfl rfl h (fun t25 h => ?_)
    refine j_iload C dX3_lie_136 rfl ?_
    refine j_aald C dX3_lie_138 rfl h (fun t26 h => ?_)
    refine j_iload C dX3_lie_139 rfl ?_
    refine j_iald C dX3_lie_141 rfl h (fun t27 h => ?_)
    refine j_iadd C dX3_lie_142 ?_
    refine j_istore (ls' := [some (vR _), some (vR _), none, some (vI _), none, some (vI _), some (vI _), some (vI _)]) C dX3_lie_143 (by decide) rfl ?_
    refine j_aload_n C dX3_lie_145 rfl ?_
    refine j_getR C dX3_lie_146 CF3 (by decide) fl_X3_26 rfl rfl h (fun t28 h => ?_)
    refine j_bipush C dX3_lie_149 rfl ?_
    refine j_iload C dX3_lie_151 rfl ?_
    refine j_iast C dX3_lie_153 rfl h (fun m29 h => ?_)
    refine j_aload_n C dX3_lie_154 rfl ?_
    refine j_getR C dX3_lie_155 CF3 (by decide) fl_X3_34 rfl rfl h (fun t30 h => ?_)
    refine j_iload C dX3_lie_158 rfl ?_
    refine j_aald C dX3_lie_160 rfl h (fun t31 h => ?_)
    refine j_iload C dX3_lie_161 rfl ?_
    refine j_iconst C dX3_lie_163 rfl ?_
    refine j_aload_n C dX3_lie_164 rfl ?_
    refine j_getR C dX3_lie_165 CF5 (by decide) fl_X3_123 rfl rfl h (fun t32 h => ?_)
    refine j_iconst C dX3_lie_168 rfl ?_
    refine j_aload_n C dX3_lie_169 rfl ?_
    refine j_getR C dX3_lie_170 CF3 (by decide) fl_X3_26 rfl rfl h (fun t33 h => ?_)
    obtain ⟨p34, ep34, h⟩ := bind_some h
    have qp34 := X7_worth_ct ep34
    refine j_cVI C dX3_lie_173 vl_X3_127 CF7 rfl qp34.1 qp34.2 (by omega) rfl rfl (Nat.le_of_ble_eq_true rfl) ?_
    refine j_iload C dX3_lie_176 rfl ?_
    obtain ⟨p35, ep35, h⟩ := bind_some h
    have qp35 := X10_within_ct ep35
    refine j_cSNI C dX3_lie_178 nl_X3_131 qp35 (by omega) rfl rfl (Nat.le_of_ble_eq_true rfl) ?_
    refine j_iast C dX3_lie_181 rfl h (fun m36 h => ?_)
    refine j_iload C dX3_lie_182 rfl ?_
    refine j_aload_n C dX3_lie_184 rfl ?_
    refine j_getR C dX3_lie_185 CF3 (by decide) fl_X3_34 rfl rfl h (fun t37 h => ?_)
    refine j_iload C dX3_lie_188 rfl ?_
    refine j_aald C dX3_lie_190 rfl h (fun t38 h => ?_)
    refine j_iload C dX3_lie_191 rfl ?_
    refine j_iald C dX3_lie_193 rfl h (fun t39 h => ?_)
    refine j_isub C dX3_lie_194 ?_
    refine j_istore (ls' := [some (vR _), some (vR _), none, some (vI _), none, some (vI _), some (vI _), some (vI _)]) C dX3_lie_195 (by decide) rfl ?_
    refine j_aload_n C dX3_lie_197 rfl ?_
    refine j_getR C dX3_lie_198 CF3 (by decide) fl_X3_37 rfl rfl h (fun t40 h => ?_)
    refine j_iload C dX3_lie_201 rfl ?_
    refine j_aald C dX3_lie_203 rfl h (fun t41 h => ?_)
    refine j_iload C dX3_lie_204 rfl ?_
    refine j_iload C dX3_lie_206 rfl ?_
    refine j_iast C dX3_lie_208 rfl h (fun m42 h => ?_)
    refine j_iinc (ls' := [some (vR _), some (vR _), none, some (vI _), none, some (vI _), some (vI _), some (vI _)]) C dX3_lie_209 rfl (by decide) rfl ?_
    refine j_goto C 73 dX3_lie_212 rfl ?_
    exact hr73 _ _ _ _ _ _ _ h
set_option maxRecDepth 100000 in
set_option maxHeartbeats 4000000 in
theorem X3_lie_L73_ok {g : Gm} {w : Wd} (C : Cx g w RX3 cX3_lie 8 (some .int)) {lv : Nat} (hlv : 3 < lv) {N : Nat} {out : (Int × Mem)} (f : Nat) : ∀ {l0 : Nat} {l1 : Nat} {l3 : Int} {l5 : Int} {l6 : Int} {l7 : Int} {m : Mem}, X3_lie_L73 N f l0 l1 l3 l5 l6 l7 m = some out → Jd g w 8 (rmL lv 0 0) (Qm g w (some (vI out.1)) out.2) 73 [some (vR l0), some (vR l1), none, some (vI l3), none, some (vI l5), some (vI l6), some (vI l7)] [] 312 m 0 0 := by
  induction f with
  | zero => intro l0 l1 l3 l5 l6 l7 m h; exact none_ne (α := (Int × Mem)) h
  | succ f ih => intro l0 l1 l3 l5 l6 l7 m h; exact X3_lie_L73_bok C hlv (fun l0 l1 l3 l5 l6 l7 m h => ih h) h
set_option maxRecDepth 100000 in
set_option maxHeartbeats 4000000 in
theorem X3_lie_ct {N : Nat} {l0 : Nat} {l1 : Nat} {l2 : Nat} {l3 : Int} {l4 : Int} {l5 : Int} {m : Mem} {out : (Int × Mem)} (h : X3_lie N l0 l1 l2 l3 l4 l5 m = some out) : shK l0 = 3 + 10 ∧ CT yX3_lie cX3_lie 8 (some .int) 4 0 0 [vR l0, vR l1, vR l2, vI l3, vI l4, vI l5] 312 m (some (vI out.1)) 312 out.2 := by
  unfold X3_lie at h
  obtain ⟨hK, h⟩ := ite_some h
  have hlv : 3 < 4 := by decide
  refine ⟨hK, CT.of (by decide +kernel) rfl (Nat.le_of_ble_eq_true rfl) (ls := [some (vR l0), some (vR l1), some (vR l2), some (vI l3), some (vI l4), some (vI l5), none, none]) rfl fun g w C _ => ?_⟩
  refine j_aload_n C dX3_lie_0 rfl ?_
  refine j_iload_n C dX3_lie_1 rfl ?_
  obtain ⟨p1, ep1, h⟩ := bind_some h
  have qp1 := X5_isCell_ct ep1
  refine j_cVI C dX3_lie_2 vl_X3_104 CF5 rfl qp1.1 qp1.2 (by omega) rfl rfl (Nat.le_of_ble_eq_true rfl) ?_
  refine j_if_eq C 20 dX3_lie_5 rfl h (fun c46 h => ?_) (fun c46 h => ?_)
  · refine j_iconst C dX3_lie_20 rfl ?_
    have e := Option.some.inj h
    subst e
    exact j_ri C dX3_lie_21 rfl rfl rfl
  · refine j_iload C dX3_lie_8 rfl ?_
    refine j_if_lt C 20 dX3_lie_10 rfl h (fun c45 h => ?_) (fun c45 h => ?_)
    · refine j_iconst C dX3_lie_20 rfl ?_
      have e := Option.some.inj h
      subst e
      exact j_ri C dX3_lie_21 rfl rfl rfl
    · refine j_iload C dX3_lie_13 rfl ?_
      refine j_bipush C dX3_lie_15 rfl ?_
      refine j_icmp_le C 22 dX3_lie_17 rfl h (fun c44 h => ?_) (fun c44 h => ?_)
      · refine j_aload_n C dX3_lie_22 rfl ?_
        refine j_getR C dX3_lie_23 CF3 (by decide) fl_X3_26 rfl rfl h (fun t2 h => ?_)
        refine j_bipush C dX3_lie_26 rfl ?_
        refine j_iload C dX3_lie_28 rfl ?_
        refine j_iast C dX3_lie_30 rfl h (fun m3 h => ?_)
        refine j_aload_n C dX3_lie_31 rfl ?_
        refine j_getR C dX3_lie_32 CF3 (by decide) fl_X3_26 rfl rfl h (fun t4 h => ?_)
        refine j_iconst C dX3_lie_35 rfl ?_
        refine j_aload_n C dX3_lie_36 rfl ?_
        refine j_aload_n C dX3_lie_37 rfl ?_
        refine j_iload_n C dX3_lie_38 rfl ?_
        obtain ⟨p5, ep5, h⟩ := bind_some h
        have qp5 := X5_openness_ct ep5
        refine j_cVI C dX3_lie_39 vl_X3_107 CF5 rfl qp5.1 qp5.2 (by omega) rfl rfl (Nat.le_of_ble_eq_true rfl) ?_
        refine j_iast C dX3_lie_42 rfl h (fun m6 h => ?_)
        refine j_aload_n C dX3_lie_43 rfl ?_
        refine j_getR C dX3_lie_44 CF3 (by decide) fl_X3_26 rfl rfl h (fun t7 h => ?_)
        refine j_iconst C dX3_lie_47 rfl ?_
        refine j_aload_n C dX3_lie_48 rfl ?_
        refine j_getR C dX3_lie_49 CF5 (by decide) fl_X3_110 rfl rfl h (fun t8 h => ?_)
        refine j_iload_n C dX3_lie_52 rfl ?_
        refine j_iald C dX3_lie_53 rfl h (fun t9 h => ?_)
        refine j_iast C dX3_lie_54 rfl h (fun m10 h => ?_)
        refine j_aload_n C dX3_lie_55 rfl ?_
        refine j_getR C dX3_lie_56 CF3 (by decide) fl_X3_26 rfl rfl h (fun t11 h => ?_)
        refine j_bipush C dX3_lie_59 rfl ?_
        refine j_aload_n C dX3_lie_61 rfl ?_
        refine j_iload_n C dX3_lie_62 rfl ?_
        obtain ⟨p12, ep12, h⟩ := bind_some h
        have qp12 := X5_housesBy_ct ep12
        refine j_cVI C dX3_lie_63 vl_X3_113 CF5 rfl qp12.1 qp12.2 (by omega) rfl rfl (Nat.le_of_ble_eq_true rfl) ?_
        refine j_iast C dX3_lie_66 rfl h (fun m13 h => ?_)
        refine j_iconst C dX3_lie_67 rfl ?_
        refine j_istore (ls' := [some (vR _), some (vR _), some (vR _), some (vI _), some (vI _), some (vI _), some (vI _), none]) C dX3_lie_68 (by decide) rfl ?_
        refine j_iconst C dX3_lie_70 rfl ?_
        refine j_istore (ls' := [some (vR _), some (vR _), some (vR _), some (vI _), some (vI _), some (vI _), some (vI _), some (vI _)]) C dX3_lie_71 (by decide) rfl ?_
        refine j_mask [true, true, false, true, false, true, true, true] (ls' := [some (vR _), some (vR _), none, some (vI _), none, some (vI _), some (vI _), some (vI _)]) rfl ?_
        exact X3_lie_L73_ok C hlv N h
      · refine j_iconst C dX3_lie_20 rfl ?_
        have e := Option.some.inj h
        subst e
        exact j_ri C dX3_lie_21 rfl rfl rfl
theorem dX5_acrossOf_0 : decode cX5_acrossOf 0 = .ok (.aload_n 0, 1) := by decide +kernel
theorem dX5_acrossOf_1 : decode cX5_acrossOf 1 = .ok (.getfield 9, 3) := by decide +kernel
theorem dX5_acrossOf_4 : decode cX5_acrossOf 4 = .ok (.ifCond .le 12, 3) := by decide +kernel
theorem dX5_acrossOf_7 : decode cX5_acrossOf 7 = .ok (.iload_n 1, 1) := by decide +kernel
theorem dX5_acrossOf_8 : decode cX5_acrossOf 8 = .ok (.aload_n 0, 1) := by decide +kernel
theorem dX5_acrossOf_9 : decode cX5_acrossOf 9 = .ok (.getfield 9, 3) := by decide +kernel
theorem dX5_acrossOf_12 : decode cX5_acrossOf 12 = .ok (.irem, 1) := by decide +kernel
theorem dX5_acrossOf_13 : decode cX5_acrossOf 13 = .ok (.goto 4, 3) := by decide +kernel
theorem dX5_acrossOf_16 : decode cX5_acrossOf 16 = .ok (.iconst 0, 1) := by decide +kernel
theorem dX5_acrossOf_17 : decode cX5_acrossOf 17 = .ok (.ireturn, 1) := by decide +kernel
set_option maxRecDepth 100000 in
set_option maxHeartbeats 4000000 in
theorem X5_acrossOf_ct {l0 : Nat} {l1 : Int} {m : Mem} {out : Int} (h : X5_acrossOf l0 l1 m = some out) : shK l0 = 5 + 10 ∧ CT yX5_acrossOf cX5_acrossOf 2 (some .int) 1 0 0 [vR l0, vI l1] 312 m (some (vI out)) 312 m := by
  unfold X5_acrossOf at h
  obtain ⟨hK, h⟩ := ite_some h
  have hlv : 0 < 1 := by decide
  refine ⟨hK, CT.of (by decide +kernel) rfl (Nat.le_of_ble_eq_true rfl) (ls := [some (vR l0), some (vI l1)]) rfl fun g w C _ => ?_⟩
  refine j_aload_n C dX5_acrossOf_0 rfl ?_
  refine j_getI C dX5_acrossOf_1 CF5 (by decide) fl_X5_9 rfl rfl h (fun t1 h => ?_)
  refine j_if_le C 16 dX5_acrossOf_4 rfl h (fun c4 h => ?_) (fun c4 h => ?_)
  · refine j_iconst C dX5_acrossOf_16 rfl ?_
    exact j_ri C dX5_acrossOf_17 rfl (Option.some.inj h).symm rfl
  · refine j_iload_n C dX5_acrossOf_7 rfl ?_
    refine j_aload_n C dX5_acrossOf_8 rfl ?_
    refine j_getI C dX5_acrossOf_9 CF5 (by decide) fl_X5_9 rfl rfl h (fun t2 h => ?_)
    obtain ⟨c3, h⟩ := ite_none h
    refine j_irem C dX5_acrossOf_12 c3 ?_
    refine j_goto C 17 dX5_acrossOf_13 rfl ?_
    exact j_ri C dX5_acrossOf_17 rfl (Option.some.inj h).symm rfl
theorem dX5_downOf_0 : decode cX5_downOf 0 = .ok (.aload_n 0, 1) := by decide +kernel
theorem dX5_downOf_1 : decode cX5_downOf 1 = .ok (.getfield 9, 3) := by decide +kernel
theorem dX5_downOf_4 : decode cX5_downOf 4 = .ok (.ifCond .le 12, 3) := by decide +kernel
theorem dX5_downOf_7 : decode cX5_downOf 7 = .ok (.iload_n 1, 1) := by decide +kernel
theorem dX5_downOf_8 : decode cX5_downOf 8 = .ok (.aload_n 0, 1) := by decide +kernel
theorem dX5_downOf_9 : decode cX5_downOf 9 = .ok (.getfield 9, 3) := by decide +kernel
theorem dX5_downOf_12 : decode cX5_downOf 12 = .ok (.idiv, 1) := by decide +kernel
theorem dX5_downOf_13 : decode cX5_downOf 13 = .ok (.goto 4, 3) := by decide +kernel
theorem dX5_downOf_16 : decode cX5_downOf 16 = .ok (.iconst 0, 1) := by decide +kernel
theorem dX5_downOf_17 : decode cX5_downOf 17 = .ok (.ireturn, 1) := by decide +kernel
set_option maxRecDepth 100000 in
set_option maxHeartbeats 4000000 in
theorem X5_downOf_ct {l0 : Nat} {l1 : Int} {m : Mem} {out : Int} (h : X5_downOf l0 l1 m = some out) : shK l0 = 5 + 10 ∧ CT yX5_downOf cX5_downOf 2 (some .int) 1 0 0 [vR l0, vI l1] 312 m (some (vI out)) 312 m := by
  unfold X5_downOf at h
  obtain ⟨hK, h⟩ := ite_some h
  have hlv : 0 < 1 := by decide
  refine ⟨hK, CT.of (by decide +kernel) rfl (Nat.le_of_ble_eq_true rfl) (ls := [some (vR l0), some (vI l1)]) rfl fun g w C _ => ?_⟩
  refine j_aload_n C dX5_downOf_0 rfl ?_
  refine j_getI C dX5_downOf_1 CF5 (by decide) fl_X5_9 rfl rfl h (fun t1 h => ?_)
  refine j_if_le C 16 dX5_downOf_4 rfl h (fun c4 h => ?_) (fun c4 h => ?_)
  · refine j_iconst C dX5_downOf_16 rfl ?_
    exact j_ri C dX5_downOf_17 rfl (Option.some.inj h).symm rfl
  · refine j_iload_n C dX5_downOf_7 rfl ?_
    refine j_aload_n C dX5_downOf_8 rfl ?_
    refine j_getI C dX5_downOf_9 CF5 (by decide) fl_X5_9 rfl rfl h (fun t2 h => ?_)
    obtain ⟨c3, h⟩ := ite_none h
    refine j_idiv C dX5_downOf_12 c3 ?_
    refine j_goto C 17 dX5_downOf_13 rfl ?_
    exact j_ri C dX5_downOf_17 rfl (Option.some.inj h).symm rfl
theorem dX5_steps_0 : decode cX5_steps 0 = .ok (.aload_n 0, 1) := by decide +kernel
theorem dX5_steps_1 : decode cX5_steps 1 = .ok (.iload_n 1, 1) := by decide +kernel
theorem dX5_steps_2 : decode cX5_steps 2 = .ok (.invokevirtual 93, 3) := by decide +kernel
theorem dX5_steps_5 : decode cX5_steps 5 = .ok (.aload_n 0, 1) := by decide +kernel
theorem dX5_steps_6 : decode cX5_steps 6 = .ok (.iload_n 2, 1) := by decide +kernel
theorem dX5_steps_7 : decode cX5_steps 7 = .ok (.invokevirtual 93, 3) := by decide +kernel
theorem dX5_steps_10 : decode cX5_steps 10 = .ok (.isub, 1) := by decide +kernel
theorem dX5_steps_11 : decode cX5_steps 11 = .ok (.invokestatic 113, 3) := by decide +kernel
theorem dX5_steps_14 : decode cX5_steps 14 = .ok (.aload_n 0, 1) := by decide +kernel
theorem dX5_steps_15 : decode cX5_steps 15 = .ok (.iload_n 1, 1) := by decide +kernel
theorem dX5_steps_16 : decode cX5_steps 16 = .ok (.invokevirtual 100, 3) := by decide +kernel
theorem dX5_steps_19 : decode cX5_steps 19 = .ok (.aload_n 0, 1) := by decide +kernel
theorem dX5_steps_20 : decode cX5_steps 20 = .ok (.iload_n 2, 1) := by decide +kernel
theorem dX5_steps_21 : decode cX5_steps 21 = .ok (.invokevirtual 100, 3) := by decide +kernel
theorem dX5_steps_24 : decode cX5_steps 24 = .ok (.isub, 1) := by decide +kernel
theorem dX5_steps_25 : decode cX5_steps 25 = .ok (.invokestatic 113, 3) := by decide +kernel
theorem dX5_steps_28 : decode cX5_steps 28 = .ok (.iadd, 1) := by decide +kernel
theorem dX5_steps_29 : decode cX5_steps 29 = .ok (.ireturn, 1) := by decide +kernel
set_option maxRecDepth 100000 in
set_option maxHeartbeats 4000000 in
theorem X5_steps_ct {l0 : Nat} {l1 : Int} {l2 : Int} {m : Mem} {out : Int} (h : X5_steps l0 l1 l2 m = some out) : shK l0 = 5 + 10 ∧ CT yX5_steps cX5_steps 3 (some .int) 2 0 0 [vR l0, vI l1, vI l2] 312 m (some (vI out)) 312 m := by
  unfold X5_steps at h
  obtain ⟨hK, h⟩ := ite_some h
  have hlv : 1 < 2 := by decide
  refine ⟨hK, CT.of (by decide +kernel) rfl (Nat.le_of_ble_eq_true rfl) (ls := [some (vR l0), some (vI l1), some (vI l2)]) rfl fun g w C _ => ?_⟩
  refine j_aload_n C dX5_steps_0 rfl ?_
  refine j_iload_n C dX5_steps_1 rfl ?_
  obtain ⟨p1, ep1, h⟩ := bind_some h
  have qp1 := X5_acrossOf_ct ep1
  refine j_cVI C dX5_steps_2 vl_X5_93 CF5 rfl qp1.1 qp1.2 (by omega) rfl rfl (Nat.le_of_ble_eq_true rfl) ?_
  refine j_aload_n C dX5_steps_5 rfl ?_
  refine j_iload_n C dX5_steps_6 rfl ?_
  obtain ⟨p2, ep2, h⟩ := bind_some h
  have qp2 := X5_acrossOf_ct ep2
  refine j_cVI C dX5_steps_7 vl_X5_93 CF5 rfl qp2.1 qp2.2 (by omega) rfl rfl (Nat.le_of_ble_eq_true rfl) ?_
  refine j_isub C dX5_steps_10 ?_
  refine j_mabs C dX5_steps_11 ml_X5_113 rfl (by omega) (Nat.le_refl 0) (Nat.le_refl 0) (Nat.le_of_ble_eq_true rfl) ?_
  refine j_aload_n C dX5_steps_14 rfl ?_
  refine j_iload_n C dX5_steps_15 rfl ?_
  obtain ⟨p3, ep3, h⟩ := bind_some h
  have qp3 := X5_downOf_ct ep3
  refine j_cVI C dX5_steps_16 vl_X5_100 CF5 rfl qp3.1 qp3.2 (by omega) rfl rfl (Nat.le_of_ble_eq_true rfl) ?_
  refine j_aload_n C dX5_steps_19 rfl ?_
  refine j_iload_n C dX5_steps_20 rfl ?_
  obtain ⟨p4, ep4, h⟩ := bind_some h
  have qp4 := X5_downOf_ct ep4
  refine j_cVI C dX5_steps_21 vl_X5_100 CF5 rfl qp4.1 qp4.2 (by omega) rfl rfl (Nat.le_of_ble_eq_true rfl) ?_
  refine j_isub C dX5_steps_24 ?_
  refine j_mabs C dX5_steps_25 ml_X5_113 rfl (by omega) (Nat.le_refl 0) (Nat.le_refl 0) (Nat.le_of_ble_eq_true rfl) ?_
  refine j_iadd C dX5_steps_28 ?_
  exact j_ri C dX5_steps_29 rfl (Option.some.inj h).symm rfl
theorem dX5_nearest_0 : decode cX5_nearest 0 = .ok (.iconst (-1), 1) := by decide +kernel
theorem dX5_nearest_1 : decode cX5_nearest 1 = .ok (.istore_n 2, 1) := by decide +kernel
theorem dX5_nearest_2 : decode cX5_nearest 2 = .ok (.bipush 42, 2) := by decide +kernel
theorem dX5_nearest_4 : decode cX5_nearest 4 = .ok (.istore_n 3, 1) := by decide +kernel
theorem dX5_nearest_5 : decode cX5_nearest 5 = .ok (.iconst 0, 1) := by decide +kernel
theorem dX5_nearest_6 : decode cX5_nearest 6 = .ok (.istore 4, 2) := by decide +kernel
theorem dX5_nearest_8 : decode cX5_nearest 8 = .ok (.iload 4, 2) := by decide +kernel
theorem dX5_nearest_10 : decode cX5_nearest 10 = .ok (.aload_n 0, 1) := by decide +kernel
theorem dX5_nearest_11 : decode cX5_nearest 11 = .ok (.getfield 37, 3) := by decide +kernel
theorem dX5_nearest_14 : decode cX5_nearest 14 = .ok (.if_icmp .ge 35, 3) := by decide +kernel
theorem dX5_nearest_17 : decode cX5_nearest 17 = .ok (.aload_n 0, 1) := by decide +kernel
theorem dX5_nearest_18 : decode cX5_nearest 18 = .ok (.iload_n 1, 1) := by decide +kernel
theorem dX5_nearest_19 : decode cX5_nearest 19 = .ok (.aload_n 0, 1) := by decide +kernel
theorem dX5_nearest_20 : decode cX5_nearest 20 = .ok (.getfield 40, 3) := by decide +kernel
theorem dX5_nearest_23 : decode cX5_nearest 23 = .ok (.iload 4, 2) := by decide +kernel
theorem dX5_nearest_25 : decode cX5_nearest 25 = .ok (.iaload, 1) := by decide +kernel
theorem dX5_nearest_26 : decode cX5_nearest 26 = .ok (.invokevirtual 122, 3) := by decide +kernel
theorem dX5_nearest_29 : decode cX5_nearest 29 = .ok (.istore 5, 2) := by decide +kernel
theorem dX5_nearest_31 : decode cX5_nearest 31 = .ok (.iload 5, 2) := by decide +kernel
theorem dX5_nearest_33 : decode cX5_nearest 33 = .ok (.iload_n 3, 1) := by decide +kernel
theorem dX5_nearest_34 : decode cX5_nearest 34 = .ok (.if_icmp .ge 9, 3) := by decide +kernel
theorem dX5_nearest_37 : decode cX5_nearest 37 = .ok (.iload 5, 2) := by decide +kernel
theorem dX5_nearest_39 : decode cX5_nearest 39 = .ok (.istore_n 3, 1) := by decide +kernel
theorem dX5_nearest_40 : decode cX5_nearest 40 = .ok (.iload 4, 2) := by decide +kernel
theorem dX5_nearest_42 : decode cX5_nearest 42 = .ok (.istore_n 2, 1) := by decide +kernel
theorem dX5_nearest_43 : decode cX5_nearest 43 = .ok (.iinc 4 1, 3) := by decide +kernel
theorem dX5_nearest_46 : decode cX5_nearest 46 = .ok (.goto (-38), 3) := by decide +kernel
theorem dX5_nearest_49 : decode cX5_nearest 49 = .ok (.iload_n 2, 1) := by decide +kernel
theorem dX5_nearest_50 : decode cX5_nearest 50 = .ok (.ireturn, 1) := by decide +kernel
set_option maxRecDepth 100000 in
set_option maxHeartbeats 4000000 in
theorem X5_nearest_J43_ok {g : Gm} {w : Wd} (C : Cx g w RX5 cX5_nearest 6 (some .int)) {lv : Nat} (hlv : 2 < lv) {N : Nat} {r8 : Nat → Int → Int → Int → Int → Option Int } {l0 : Nat} {l1 : Int} {l2 : Int} {l3 : Int} {l4 : Int} {m : Mem} {out : Int} (hr8 : ∀ l0 l1 l2 l3 l4, r8 l0 l1 l2 l3 l4 = some out → Jd g w 6 (rmL lv 0 0) (Qm g w (some (vI out)) m) 8 [some (vR l0), some (vI l1), some (vI l2), some (vI l3), some (vI l4), none] [] 312 m 0 0) (h : X5_nearest_J43 N r8 l0 l1 l2 l3 l4 m = some out) : Jd g w 6 (rmL lv 0 0) (Qm g w (some (vI out)) m) 43 [some (vR l0), some (vI l1), some (vI l2), some (vI l3), some (vI l4), none] [] 312 m 0 0 := by
  unfold X5_nearest_J43 at h
  refine j_iinc (ls' := [some (vR _), some (vI _), some (vI _), some (vI _), some (vI _), none]) C dX5_nearest_43 rfl (by decide) rfl ?_
  refine j_goto C 8 dX5_nearest_46 rfl ?_
  exact hr8 _ _ _ _ _ h
set_option maxRecDepth 100000 in
set_option maxHeartbeats 4000000 in
theorem X5_nearest_L8_bok {g : Gm} {w : Wd} (C : Cx g w RX5 cX5_nearest 6 (some .int)) {lv : Nat} (hlv : 2 < lv) {N : Nat} {r8 : Nat → Int → Int → Int → Int → Option Int} {l0 : Nat} {l1 : Int} {l2 : Int} {l3 : Int} {l4 : Int} {m : Mem} {out : Int} (hr8 : ∀ l0 l1 l2 l3 l4, r8 l0 l1 l2 l3 l4 = some out → Jd g w 6 (rmL lv 0 0) (Qm g w (some (vI out)) m) 8 [some (vR l0), some (vI l1), some (vI l2), some (vI l3), some (vI l4), none] [] 312 m 0 0) (h : X5_nearest_L8_b N m r8 l0 l1 l2 l3 l4 = some out) : Jd g w 6 (rmL lv 0 0) (Qm g w (some (vI out)) m) 8 [some (vR l0), some (vI l1), some (vI l2), some (vI l3), some (vI l4), none] [] 312 m 0 0 := by
  unfold X5_nearest_L8_b at h
  refine j_iload C dX5_nearest_8 rfl ?_
  refine j_aload_n C dX5_nearest_10 rfl ?_
  refine j_getI C dX5_nearest_11 CF5 (by decide) fl_X5_37 rfl rfl h (fun t1 h => ?_)
  refine j_icmp_ge C 49 dX5_nearest_14 rfl h (fun c6 h => ?_) (fun c6 h => ?_)
  · refine j_iload_n C dX5_nearest_49 rfl ?_
    exact j_ri C dX5_nearest_50 rfl (Option.some.inj h).symm rfl
  · refine j_aload_n C dX5_nearest_17 rfl ?_
    refine j_iload_n C dX5_nearest_18 rfl ?_
    refine j_aload_n C dX5_nearest_19 rfl ?_
    refine j_getR C dX5_nearest_20 CF5 (by decide) fl_X5_40 rfl rfl h (fun t2 h => ?_)
    refine j_iload C dX5_nearest_23 rfl ?_
    refine j_iald C dX5_nearest_25 rfl h (fun t3 h => ?_)
    obtain ⟨p4, ep4, h⟩ := bind_some h
    have qp4 := X5_steps_ct ep4
    refine j_cVI C dX5_nearest_26 vl_X5_122 CF5 rfl qp4.1 qp4.2 (by omega) rfl rfl (Nat.le_of_ble_eq_true rfl) ?_
    refine j_istore (ls' := [some (vR _), some (vI _), some (vI _), some (vI _), some (vI _), some (vI _)]) C dX5_nearest_29 (by decide) rfl ?_
    refine j_iload C dX5_nearest_31 rfl ?_
    refine j_iload_n C dX5_nearest_33 rfl ?_
    refine j_icmp_ge C 43 dX5_nearest_34 rfl h (fun c5 h => ?_) (fun c5 h => ?_)
    · refine j_mask [true, true, true, true, true, false] (ls' := [some (vR _), some (vI _), some (vI _), some (vI _), some (vI _), none]) rfl ?_
      exact X5_nearest_J43_ok C hlv hr8 h
    · refine j_iload C dX5_nearest_37 rfl ?_
      refine j_istore_n (ls' := [some (vR _), some (vI _), some (vI _), some (vI _), some (vI _), some (vI _)]) C dX5_nearest_39 (by decide) rfl ?_
      refine j_iload C dX5_nearest_40 rfl ?_
      refine j_istore_n (ls' := [some (vR _), some (vI _), some (vI _), some (vI _), some (vI _), some (vI _)]) C dX5_nearest_42 (by decide) rfl ?_
      refine j_mask [true, true, true, true, true, false] (ls' := [some (vR _), some (vI _), some (vI _), some (vI _), some (vI _), none]) rfl ?_
      exact X5_nearest_J43_ok C hlv hr8 h
set_option maxRecDepth 100000 in
set_option maxHeartbeats 4000000 in
theorem X5_nearest_L8_ok {g : Gm} {w : Wd} (C : Cx g w RX5 cX5_nearest 6 (some .int)) {lv : Nat} (hlv : 2 < lv) {N : Nat} {m : Mem} {out : Int} (f : Nat) : ∀ {l0 : Nat} {l1 : Int} {l2 : Int} {l3 : Int} {l4 : Int}, X5_nearest_L8 N m f l0 l1 l2 l3 l4 = some out → Jd g w 6 (rmL lv 0 0) (Qm g w (some (vI out)) m) 8 [some (vR l0), some (vI l1), some (vI l2), some (vI l3), some (vI l4), none] [] 312 m 0 0 := by
  induction f with
  | zero => intro l0 l1 l2 l3 l4 h; exact none_ne (α := Int) h
  | succ f ih => intro l0 l1 l2 l3 l4 h; exact X5_nearest_L8_bok C hlv (fun l0 l1 l2 l3 l4 h => ih h) h
set_option maxRecDepth 100000 in
set_option maxHeartbeats 4000000 in
theorem X5_nearest_ct {N : Nat} {l0 : Nat} {l1 : Int} {m : Mem} {out : Int} (h : X5_nearest N l0 l1 m = some out) : shK l0 = 5 + 10 ∧ CT yX5_nearest cX5_nearest 6 (some .int) 3 0 0 [vR l0, vI l1] 312 m (some (vI out)) 312 m := by
  unfold X5_nearest at h
  obtain ⟨hK, h⟩ := ite_some h
  have hlv : 2 < 3 := by decide
  refine ⟨hK, CT.of (by decide +kernel) rfl (Nat.le_of_ble_eq_true rfl) (ls := [some (vR l0), some (vI l1), none, none, none, none]) rfl fun g w C _ => ?_⟩
  refine j_iconst C dX5_nearest_0 rfl ?_
  refine j_istore_n (ls' := [some (vR _), some (vI _), some (vI _), none, none, none]) C dX5_nearest_1 (by decide) rfl ?_
  refine j_bipush C dX5_nearest_2 rfl ?_
  refine j_istore_n (ls' := [some (vR _), some (vI _), some (vI _), some (vI _), none, none]) C dX5_nearest_4 (by decide) rfl ?_
  refine j_iconst C dX5_nearest_5 rfl ?_
  refine j_istore (ls' := [some (vR _), some (vI _), some (vI _), some (vI _), some (vI _), none]) C dX5_nearest_6 (by decide) rfl ?_
  exact X5_nearest_L8_ok C hlv N h
theorem dX5_isCistern_0 : decode cX5_isCistern 0 = .ok (.iload_n 1, 1) := by decide +kernel
theorem dX5_isCistern_1 : decode cX5_isCistern 1 = .ok (.ifCond .lt 15, 3) := by decide +kernel
theorem dX5_isCistern_4 : decode cX5_isCistern 4 = .ok (.iload_n 1, 1) := by decide +kernel
theorem dX5_isCistern_5 : decode cX5_isCistern 5 = .ok (.aload_n 0, 1) := by decide +kernel
theorem dX5_isCistern_6 : decode cX5_isCistern 6 = .ok (.getfield 37, 3) := by decide +kernel
theorem dX5_isCistern_9 : decode cX5_isCistern 9 = .ok (.if_icmp .ge 7, 3) := by decide +kernel
theorem dX5_isCistern_12 : decode cX5_isCistern 12 = .ok (.iconst 1, 1) := by decide +kernel
theorem dX5_isCistern_13 : decode cX5_isCistern 13 = .ok (.goto 4, 3) := by decide +kernel
theorem dX5_isCistern_16 : decode cX5_isCistern 16 = .ok (.iconst 0, 1) := by decide +kernel
theorem dX5_isCistern_17 : decode cX5_isCistern 17 = .ok (.ireturn, 1) := by decide +kernel
set_option maxRecDepth 100000 in
set_option maxHeartbeats 4000000 in
theorem X5_isCistern_ct {l0 : Nat} {l1 : Int} {m : Mem} {out : Int} (h : X5_isCistern l0 l1 m = some out) : shK l0 = 5 + 10 ∧ CT yX5_isCistern cX5_isCistern 2 (some .boolean) 1 0 0 [vR l0, vI l1] 312 m (some (vI out)) 312 m := by
  unfold X5_isCistern at h
  obtain ⟨hK, h⟩ := ite_some h
  have hlv : 0 < 1 := by decide
  refine ⟨hK, CT.of (by decide +kernel) rfl (Nat.le_of_ble_eq_true rfl) (ls := [some (vR l0), some (vI l1)]) rfl fun g w C _ => ?_⟩
  refine j_iload_n C dX5_isCistern_0 rfl ?_
  refine j_if_lt C 16 dX5_isCistern_1 rfl h (fun c3 h => ?_) (fun c3 h => ?_)
  · refine j_iconst C dX5_isCistern_16 rfl ?_
    exact j_rz C dX5_isCistern_17 rfl (retZ_some h) rfl
  · refine j_iload_n C dX5_isCistern_4 rfl ?_
    refine j_aload_n C dX5_isCistern_5 rfl ?_
    refine j_getI C dX5_isCistern_6 CF5 (by decide) fl_X5_37 rfl rfl h (fun t1 h => ?_)
    refine j_icmp_ge C 16 dX5_isCistern_9 rfl h (fun c2 h => ?_) (fun c2 h => ?_)
    · refine j_iconst C dX5_isCistern_16 rfl ?_
      exact j_rz C dX5_isCistern_17 rfl (retZ_some h) rfl
    · refine j_iconst C dX5_isCistern_12 rfl ?_
      refine j_goto C 17 dX5_isCistern_13 rfl ?_
      exact j_rz C dX5_isCistern_17 rfl (retZ_some h) rfl
theorem dX3_pass_0 : decode cX3_pass 0 = .ok (.aload_n 3, 1) := by decide +kernel
theorem dX3_pass_1 : decode cX3_pass 1 = .ok (.iconst 0, 1) := by decide +kernel
theorem dX3_pass_2 : decode cX3_pass 2 = .ok (.aload_n 0, 1) := by decide +kernel
theorem dX3_pass_3 : decode cX3_pass 3 = .ok (.getfield 9, 3) := by decide +kernel
theorem dX3_pass_6 : decode cX3_pass 6 = .ok (.iconst 0, 1) := by decide +kernel
theorem dX3_pass_7 : decode cX3_pass 7 = .ok (.aload_n 3, 1) := by decide +kernel
theorem dX3_pass_8 : decode cX3_pass 8 = .ok (.arraylength, 1) := by decide +kernel
theorem dX3_pass_9 : decode cX3_pass 9 = .ok (.aload_n 0, 1) := by decide +kernel
theorem dX3_pass_10 : decode cX3_pass 10 = .ok (.getfield 9, 3) := by decide +kernel
theorem dX3_pass_13 : decode cX3_pass 13 = .ok (.arraylength, 1) := by decide +kernel
theorem dX3_pass_14 : decode cX3_pass 14 = .ok (.invokestatic 43, 3) := by decide +kernel
theorem dX3_pass_17 : decode cX3_pass 17 = .ok (.invokestatic 49, 3) := by decide +kernel
theorem dX3_pass_20 : decode cX3_pass 20 = .ok (.aload_n 0, 1) := by decide +kernel
theorem dX3_pass_21 : decode cX3_pass 21 = .ok (.aload_n 1, 1) := by decide +kernel
theorem dX3_pass_22 : decode cX3_pass 22 = .ok (.aload_n 2, 1) := by decide +kernel
theorem dX3_pass_23 : decode cX3_pass 23 = .ok (.invokevirtual 55, 3) := by decide +kernel
theorem dX3_pass_26 : decode cX3_pass 26 = .ok (.aload_n 0, 1) := by decide +kernel
theorem dX3_pass_27 : decode cX3_pass 27 = .ok (.getfield 40, 3) := by decide +kernel
theorem dX3_pass_30 : decode cX3_pass 30 = .ok (.iconst 0, 1) := by decide +kernel
theorem dX3_pass_31 : decode cX3_pass 31 = .ok (.invokestatic 59, 3) := by decide +kernel
theorem dX3_pass_34 : decode cX3_pass 34 = .ok (.iconst 0, 1) := by decide +kernel
theorem dX3_pass_35 : decode cX3_pass 35 = .ok (.istore 4, 2) := by decide +kernel
theorem dX3_pass_37 : decode cX3_pass 37 = .ok (.iload 4, 2) := by decide +kernel
theorem dX3_pass_39 : decode cX3_pass 39 = .ok (.aload_n 1, 1) := by decide +kernel
theorem dX3_pass_40 : decode cX3_pass 40 = .ok (.getfield 65, 3) := by decide +kernel
theorem dX3_pass_43 : decode cX3_pass 43 = .ok (.if_icmp .ge 67, 3) := by decide +kernel
theorem dX3_pass_46 : decode cX3_pass 46 = .ok (.aload_n 0, 1) := by decide +kernel
theorem dX3_pass_47 : decode cX3_pass 47 = .ok (.aload_n 1, 1) := by decide +kernel
theorem dX3_pass_48 : decode cX3_pass 48 = .ok (.aload_n 2, 1) := by decide +kernel
theorem dX3_pass_49 : decode cX3_pass 49 = .ok (.aload_n 2, 1) := by decide +kernel
theorem dX3_pass_50 : decode cX3_pass 50 = .ok (.getfield 71, 3) := by decide +kernel
theorem dX3_pass_53 : decode cX3_pass 53 = .ok (.iload 4, 2) := by decide +kernel
theorem dX3_pass_55 : decode cX3_pass 55 = .ok (.iaload, 1) := by decide +kernel
theorem dX3_pass_56 : decode cX3_pass 56 = .ok (.aload_n 1, 1) := by decide +kernel
theorem dX3_pass_57 : decode cX3_pass 57 = .ok (.getfield 76, 3) := by decide +kernel
theorem dX3_pass_60 : decode cX3_pass 60 = .ok (.iload 4, 2) := by decide +kernel
theorem dX3_pass_62 : decode cX3_pass 62 = .ok (.iaload, 1) := by decide +kernel
theorem dX3_pass_63 : decode cX3_pass 63 = .ok (.iload 4, 2) := by decide +kernel
theorem dX3_pass_65 : decode cX3_pass 65 = .ok (.invokevirtual 79, 3) := by decide +kernel
theorem dX3_pass_68 : decode cX3_pass 68 = .ok (.istore 5, 2) := by decide +kernel
theorem dX3_pass_70 : decode cX3_pass 70 = .ok (.aload_n 1, 1) := by decide +kernel
theorem dX3_pass_71 : decode cX3_pass 71 = .ok (.aload_n 2, 1) := by decide +kernel
theorem dX3_pass_72 : decode cX3_pass 72 = .ok (.getfield 71, 3) := by decide +kernel
theorem dX3_pass_75 : decode cX3_pass 75 = .ok (.iload 4, 2) := by decide +kernel
theorem dX3_pass_77 : decode cX3_pass 77 = .ok (.iaload, 1) := by decide +kernel
theorem dX3_pass_78 : decode cX3_pass 78 = .ok (.invokevirtual 83, 3) := by decide +kernel
theorem dX3_pass_81 : decode cX3_pass 81 = .ok (.istore 6, 2) := by decide +kernel
theorem dX3_pass_83 : decode cX3_pass 83 = .ok (.aload_n 1, 1) := by decide +kernel
theorem dX3_pass_84 : decode cX3_pass 84 = .ok (.iload 6, 2) := by decide +kernel
theorem dX3_pass_86 : decode cX3_pass 86 = .ok (.invokevirtual 87, 3) := by decide +kernel
theorem dX3_pass_89 : decode cX3_pass 89 = .ok (.ifCond .eq 15, 3) := by decide +kernel
theorem dX3_pass_92 : decode cX3_pass 92 = .ok (.aload_n 0, 1) := by decide +kernel
theorem dX3_pass_93 : decode cX3_pass 93 = .ok (.getfield 40, 3) := by decide +kernel
theorem dX3_pass_96 : decode cX3_pass 96 = .ok (.iload 6, 2) := by decide +kernel
theorem dX3_pass_98 : decode cX3_pass 98 = .ok (.dup2, 1) := by decide +kernel
theorem dX3_pass_99 : decode cX3_pass 99 = .ok (.iaload, 1) := by decide +kernel
theorem dX3_pass_100 : decode cX3_pass 100 = .ok (.iload 5, 2) := by decide +kernel
theorem dX3_pass_102 : decode cX3_pass 102 = .ok (.iadd, 1) := by decide +kernel
theorem dX3_pass_103 : decode cX3_pass 103 = .ok (.iastore, 1) := by decide +kernel
theorem dX3_pass_104 : decode cX3_pass 104 = .ok (.iinc 4 1, 3) := by decide +kernel
theorem dX3_pass_107 : decode cX3_pass 107 = .ok (.goto (-70), 3) := by decide +kernel
theorem dX3_pass_110 : decode cX3_pass 110 = .ok (.return_, 1) := by decide +kernel
set_option maxRecDepth 100000 in
set_option maxHeartbeats 4000000 in
theorem X3_pass_J104_ok {g : Gm} {w : Wd} (C : Cx g w RX3 cX3_pass 7 none) {lv : Nat} (hlv : 4 < lv) {N : Nat} {r37 : Nat → Nat → Nat → Int → Mem → Option Mem } {l0 : Nat} {l1 : Nat} {l2 : Nat} {l4 : Int} {m : Mem} {out : Mem} (hr37 : ∀ l0 l1 l2 l4 m, r37 l0 l1 l2 l4 m = some out → Jd g w 7 (rmL lv 0 0) (Qm g w none out) 37 [some (vR l0), some (vR l1), some (vR l2), none, some (vI l4), none, none] [] 312 m 0 0) (h : X3_pass_J104 N r37 l0 l1 l2 l4 m = some out) : Jd g w 7 (rmL lv 0 0) (Qm g w none out) 104 [some (vR l0), some (vR l1), some (vR l2), none, some (vI l4), none, none] [] 312 m 0 0 := by
  unfold X3_pass_J104 at h
  refine j_iinc (ls' := [some (vR _), some (vR _), some (vR _), none, some (vI _), none, none]) C dX3_pass_104 rfl (by decide) rfl ?_
  refine j_goto C 37 dX3_pass_107 rfl ?_
  exact hr37 _ _ _ _ _ h
set_option maxRecDepth 100000 in
set_option maxHeartbeats 4000000 in
theorem X3_pass_L37_bok {g : Gm} {w : Wd} (C : Cx g w RX3 cX3_pass 7 none) {lv : Nat} (hlv : 4 < lv) {N : Nat} {r37 : Nat → Nat → Nat → Int → Mem → Option Mem} {l0 : Nat} {l1 : Nat} {l2 : Nat} {l4 : Int} {m : Mem} {out : Mem} (hr37 : ∀ l0 l1 l2 l4 m, r37 l0 l1 l2 l4 m = some out → Jd g w 7 (rmL lv 0 0) (Qm g w none out) 37 [some (vR l0), some (vR l1), some (vR l2), none, some (vI l4), none, none] [] 312 m 0 0) (h : X3_pass_L37_b N r37 l0 l1 l2 l4 m = some out) : Jd g w 7 (rmL lv 0 0) (Qm g w none out) 37 [some (vR l0), some (vR l1), some (vR l2), none, some (vI l4), none, none] [] 312 m 0 0 := by
  unfold X3_pass_L37_b at h
  refine j_iload C dX3_pass_37 rfl ?_
  refine j_aload_n C dX3_pass_39 rfl ?_
  refine j_getI C dX3_pass_40 CF5 (by decide) fl_X3_65 rfl rfl h (fun t9 h => ?_)
  refine j_icmp_ge C 110 dX3_pass_43 rfl h (fun c23 h => ?_) (fun c23 h => ?_)
  · have e := Option.some.inj h
    subst e
    exact j_rv C dX3_pass_110 rfl rfl
  · refine j_aload_n C dX3_pass_46 rfl ?_
    refine j_aload_n C dX3_pass_47 rfl ?_
    refine j_aload_n C dX3_pass_48 rfl ?_
    refine j_aload_n C dX3_pass_49 rfl ?_
    refine j_getR C dX3_pass_50 CF1 (by decide) fl_X3_71 rfl rfl h (fun t10 h => ?_)
    refine j_iload C dX3_pass_53 rfl ?_
    refine j_iald C dX3_pass_55 rfl h (fun t11 h => ?_)
    refine j_aload_n C dX3_pass_56 rfl ?_
    refine j_getR C dX3_pass_57 CF5 (by decide) fl_X3_76 rfl rfl h (fun t12 h => ?_)
    refine j_iload C dX3_pass_60 rfl ?_
    refine j_iald C dX3_pass_62 rfl h (fun t13 h => ?_)
    refine j_iload C dX3_pass_63 rfl ?_
    obtain ⟨p14, ep14, h⟩ := bind_some h
    have qp14 := X3_lie_ct ep14
    refine j_cVI C dX3_pass_65 vl_X3_79 CF3 rfl qp14.1 qp14.2 (by omega) rfl rfl (Nat.le_of_ble_eq_true rfl) ?_
    refine j_istore (ls' := [some (vR _), some (vR _), some (vR _), none, some (vI _), some (vI _), none]) C dX3_pass_68 (by decide) rfl ?_
    refine j_aload_n C dX3_pass_70 rfl ?_
    refine j_aload_n C dX3_pass_71 rfl ?_
    refine j_getR C dX3_pass_72 CF1 (by decide) fl_X3_71 rfl rfl h (fun t15 h => ?_)
    refine j_iload C dX3_pass_75 rfl ?_
    refine j_iald C dX3_pass_77 rfl h (fun t16 h => ?_)
    obtain ⟨p17, ep17, h⟩ := bind_some h
    have qp17 := X5_nearest_ct ep17
    refine j_cVI C dX3_pass_78 vl_X3_83 CF5 rfl qp17.1 qp17.2 (by omega) rfl rfl (Nat.le_of_ble_eq_true rfl) ?_
    refine j_istore (ls' := [some (vR _), some (vR _), some (vR _), none, some (vI _), some (vI _), some (vI _)]) C dX3_pass_81 (by decide) rfl ?_
    refine j_aload_n C dX3_pass_83 rfl ?_
    refine j_iload C dX3_pass_84 rfl ?_
    obtain ⟨p18, ep18, h⟩ := bind_some h
    have qp18 := X5_isCistern_ct ep18
    refine j_cVI C dX3_pass_86 vl_X3_87 CF5 rfl qp18.1 qp18.2 (by omega) rfl rfl (Nat.le_of_ble_eq_true rfl) ?_
    refine j_if_eq C 104 dX3_pass_89 rfl h (fun c22 h => ?_) (fun c22 h => ?_)
    · refine j_mask [true, true, true, false, true, false, false] (ls' := [some (vR _), some (vR _), some (vR _), none, some (vI _), none, none]) rfl ?_
      exact X3_pass_J104_ok C hlv hr37 h
    · refine j_aload_n C dX3_pass_92 rfl ?_
      refine j_getR C dX3_pass_93 CF3 (by decide) fl_X3_40 rfl rfl h (fun t19 h => ?_)
      refine j_iload C dX3_pass_96 rfl ?_
      refine j_dup2 C dX3_pass_98 rfl rfl ?_
      refine j_iald C dX3_pass_99 rfl h (fun t20 h => ?_)
      refine j_iload C dX3_pass_100 rfl ?_
      refine j_iadd C dX3_pass_102 ?_
      refine j_iast C dX3_pass_103 rfl h (fun m21 h => ?_)
      refine j_mask [true, true, true, false, true, false, false] (ls' := [some (vR _), some (vR _), some (vR _), none, some (vI _), none, none]) rfl ?_
      exact X3_pass_J104_ok C hlv hr37 h
set_option maxRecDepth 100000 in
set_option maxHeartbeats 4000000 in
theorem X3_pass_L37_ok {g : Gm} {w : Wd} (C : Cx g w RX3 cX3_pass 7 none) {lv : Nat} (hlv : 4 < lv) {N : Nat} {out : Mem} (f : Nat) : ∀ {l0 : Nat} {l1 : Nat} {l2 : Nat} {l4 : Int} {m : Mem}, X3_pass_L37 N f l0 l1 l2 l4 m = some out → Jd g w 7 (rmL lv 0 0) (Qm g w none out) 37 [some (vR l0), some (vR l1), some (vR l2), none, some (vI l4), none, none] [] 312 m 0 0 := by
  induction f with
  | zero => intro l0 l1 l2 l4 m h; exact none_ne (α := Mem) h
  | succ f ih => intro l0 l1 l2 l4 m h; exact X3_pass_L37_bok C hlv (fun l0 l1 l2 l4 m h => ih h) h
set_option maxRecDepth 100000 in
set_option maxHeartbeats 4000000 in
theorem X3_pass_ct {N : Nat} {l0 : Nat} {l1 : Nat} {l2 : Nat} {l3 : Nat} {m : Mem} {out : Mem} (h : X3_pass N l0 l1 l2 l3 m = some out) : shK l0 = 3 + 10 ∧ CT yX3_pass cX3_pass 7 none 5 0 0 [vR l0, vR l1, vR l2, vR l3] 312 m none 312 out := by
  unfold X3_pass at h
  obtain ⟨hK, h⟩ := ite_some h
  have hlv : 4 < 5 := by decide
  refine ⟨hK, CT.of (by decide +kernel) rfl (Nat.le_of_ble_eq_true rfl) (ls := [some (vR l0), some (vR l1), some (vR l2), some (vR l3), none, none, none]) rfl fun g w C _ => ?_⟩
  refine j_aload_n C dX3_pass_0 rfl ?_
  refine j_iconst C dX3_pass_1 rfl ?_
  refine j_aload_n C dX3_pass_2 rfl ?_
  refine j_getR C dX3_pass_3 CF3 (by decide) fl_X3_9 rfl rfl h (fun t1 h => ?_)
  refine j_iconst C dX3_pass_6 rfl ?_
  refine j_aload_n C dX3_pass_7 rfl ?_
  refine j_alen C dX3_pass_8 rfl h (fun t2 h => ?_)
  refine j_aload_n C dX3_pass_9 rfl ?_
  refine j_getR C dX3_pass_10 CF3 (by decide) fl_X3_9 rfl rfl h (fun t3 h => ?_)
  refine j_alen C dX3_pass_13 rfl h (fun t4 h => ?_)
  refine j_mmin C dX3_pass_14 ml_X3_43 rfl (by omega) (Nat.le_refl 0) (Nat.le_refl 0) (Nat.le_of_ble_eq_true rfl) ?_
  refine j_acopy C dX3_pass_17 al_X3_49 rfl (by omega) (Nat.le_of_ble_eq_true rfl) rfl h (fun m5 h => ?_)
  refine j_aload_n C dX3_pass_20 rfl ?_
  refine j_aload_n C dX3_pass_21 rfl ?_
  refine j_aload_n C dX3_pass_22 rfl ?_
  obtain ⟨p6, ep6, h⟩ := bind_some h
  have qp6 := X3_chill_ct ep6
  refine j_cVV C dX3_pass_23 vl_X3_55 CF3 rfl qp6.1 qp6.2 (by omega) rfl rfl (Nat.le_of_ble_eq_true rfl) ?_
  refine j_aload_n C dX3_pass_26 rfl ?_
  refine j_getR C dX3_pass_27 CF3 (by decide) fl_X3_40 rfl rfl h (fun t7 h => ?_)
  refine j_iconst C dX3_pass_30 rfl ?_
  obtain ⟨p8, ep8, h⟩ := bind_some h
  have qp8 := J7_fill_53178_ct ep8
  refine j_cSV C dX3_pass_31 sl_X3_59 qp8 (by omega) rfl rfl (Nat.le_of_ble_eq_true rfl) ?_
  refine j_iconst C dX3_pass_34 rfl ?_
  refine j_istore (ls' := [some (vR _), some (vR _), some (vR _), some (vR _), some (vI _), none, none]) C dX3_pass_35 (by decide) rfl ?_
  refine j_mask [true, true, true, false, true, false, false] (ls' := [some (vR _), some (vR _), some (vR _), none, some (vI _), none, none]) rfl ?_
  exact X3_pass_L37_ok C hlv N h
theorem dX10_asTold_0 : decode cX10_asTold 0 = .ok (.aload_n 0, 1) := by decide +kernel
theorem dX10_asTold_1 : decode cX10_asTold 1 = .ok (.getfield 67, 3) := by decide +kernel
theorem dX10_asTold_4 : decode cX10_asTold 4 = .ok (.ifCond .eq 30, 3) := by decide +kernel
theorem dX10_asTold_7 : decode cX10_asTold 7 = .ok (.aload_n 0, 1) := by decide +kernel
theorem dX10_asTold_8 : decode cX10_asTold 8 = .ok (.getfield 57, 3) := by decide +kernel
theorem dX10_asTold_11 : decode cX10_asTold 11 = .ok (.aload_n 0, 1) := by decide +kernel
theorem dX10_asTold_12 : decode cX10_asTold 12 = .ok (.getfield 27, 3) := by decide +kernel
theorem dX10_asTold_15 : decode cX10_asTold 15 = .ok (.aload_n 0, 1) := by decide +kernel
theorem dX10_asTold_16 : decode cX10_asTold 16 = .ok (.getfield 37, 3) := by decide +kernel
theorem dX10_asTold_19 : decode cX10_asTold 19 = .ok (.aload_n 0, 1) := by decide +kernel
theorem dX10_asTold_20 : decode cX10_asTold 20 = .ok (.getfield 27, 3) := by decide +kernel
theorem dX10_asTold_23 : decode cX10_asTold 23 = .ok (.getfield 248, 3) := by decide +kernel
theorem dX10_asTold_26 : decode cX10_asTold 26 = .ok (.invokevirtual 310, 3) := by decide +kernel
theorem dX10_asTold_29 : decode cX10_asTold 29 = .ok (.aload_n 0, 1) := by decide +kernel
theorem dX10_asTold_30 : decode cX10_asTold 30 = .ok (.iconst 0, 1) := by decide +kernel
theorem dX10_asTold_31 : decode cX10_asTold 31 = .ok (.putfield 67, 3) := by decide +kernel
theorem dX10_asTold_34 : decode cX10_asTold 34 = .ok (.aload_n 0, 1) := by decide +kernel
theorem dX10_asTold_35 : decode cX10_asTold 35 = .ok (.getfield 57, 3) := by decide +kernel
theorem dX10_asTold_38 : decode cX10_asTold 38 = .ok (.areturn, 1) := by decide +kernel
set_option maxRecDepth 100000 in
set_option maxHeartbeats 4000000 in
theorem X10_asTold_J34_ok {g : Gm} {w : Wd} (C : Cx g w RX10 cX10_asTold 1 (some (.object "DewBaron$Night"))) {lv : Nat} (hlv : 5 < lv) {N : Nat} {l0 : Nat} {m : Mem} {out : (Nat × Mem)} (h : X10_asTold_J34 N l0 m = some out) : Jd g w 1 (rmL lv 0 0) (Qm g w (some (vR out.1)) out.2) 34 [some (vR l0)] [] 312 m 0 0 := by
  unfold X10_asTold_J34 at h
  refine j_aload_n C dX10_asTold_34 rfl ?_
  refine j_getR C dX10_asTold_35 CF10 (by decide) fl_X10_57 rfl rfl h (fun t2 h => ?_)
  have e := Option.some.inj h
  subst e
  exact j_ra C dX10_asTold_38 rfl rfl rfl
set_option maxRecDepth 100000 in
set_option maxHeartbeats 4000000 in
theorem X10_asTold_ct {N : Nat} {l0 : Nat} {m : Mem} {out : (Nat × Mem)} (h : X10_asTold N l0 m = some out) : shK l0 = 10 + 10 ∧ CT yX10_asTold cX10_asTold 1 (some (.object "DewBaron$Night")) 6 0 0 [vR l0] 312 m (some (vR out.1)) 312 out.2 := by
  unfold X10_asTold at h
  obtain ⟨hK, h⟩ := ite_some h
  have hlv : 5 < 6 := by decide
  refine ⟨hK, CT.of (by decide +kernel) rfl (Nat.le_of_ble_eq_true rfl) (ls := [some (vR l0)]) rfl fun g w C _ => ?_⟩
  refine j_aload_n C dX10_asTold_0 rfl ?_
  refine j_getI C dX10_asTold_1 CF10 (by decide) fl_X10_67 rfl rfl h (fun t1 h => ?_)
  refine j_if_eq C 34 dX10_asTold_4 rfl h (fun c10 h => ?_) (fun c10 h => ?_)
  · exact X10_asTold_J34_ok C hlv h
  · refine j_aload_n C dX10_asTold_7 rfl ?_
    refine j_getR C dX10_asTold_8 CF10 (by decide) fl_X10_57 rfl rfl h (fun t3 h => ?_)
    refine j_aload_n C dX10_asTold_11 rfl ?_
    refine j_getR C dX10_asTold_12 CF10 (by decide) fl_X10_27 rfl rfl h (fun t4 h => ?_)
    refine j_aload_n C dX10_asTold_15 rfl ?_
    refine j_getR C dX10_asTold_16 CF10 (by decide) fl_X10_37 rfl rfl h (fun t5 h => ?_)
    refine j_aload_n C dX10_asTold_19 rfl ?_
    refine j_getR C dX10_asTold_20 CF10 (by decide) fl_X10_27 rfl rfl h (fun t6 h => ?_)
    refine j_getR C dX10_asTold_23 CF5 (by decide) fl_X10_248 rfl rfl h (fun t7 h => ?_)
    obtain ⟨p8, ep8, h⟩ := bind_some h
    have qp8 := X3_pass_ct ep8
    refine j_cVV C dX10_asTold_26 vl_X10_310 CF3 rfl qp8.1 qp8.2 (by omega) rfl rfl (Nat.le_of_ble_eq_true rfl) ?_
    refine j_aload_n C dX10_asTold_29 rfl ?_
    refine j_iconst C dX10_asTold_30 rfl ?_
    refine j_putZ C dX10_asTold_31 CF10 (by decide) fl_X10_67 rfl rfl rfl rfl h (fun m9 h => ?_)
    exact X10_asTold_J34_ok C hlv h
theorem dX3_dawn_0 : decode cX3_dawn 0 = .ok (.iload_n 1, 1) := by decide +kernel
theorem dX3_dawn_1 : decode cX3_dawn 1 = .ok (.ifCond .lt 21, 3) := by decide +kernel
theorem dX3_dawn_4 : decode cX3_dawn 4 = .ok (.iload_n 1, 1) := by decide +kernel
theorem dX3_dawn_5 : decode cX3_dawn 5 = .ok (.bipush 10, 2) := by decide +kernel
theorem dX3_dawn_7 : decode cX3_dawn 7 = .ok (.if_icmp .ge 15, 3) := by decide +kernel
theorem dX3_dawn_10 : decode cX3_dawn 10 = .ok (.aload_n 0, 1) := by decide +kernel
theorem dX3_dawn_11 : decode cX3_dawn 11 = .ok (.getfield 37, 3) := by decide +kernel
theorem dX3_dawn_14 : decode cX3_dawn 14 = .ok (.iload_n 1, 1) := by decide +kernel
theorem dX3_dawn_15 : decode cX3_dawn 15 = .ok (.aaload, 1) := by decide +kernel
theorem dX3_dawn_16 : decode cX3_dawn 16 = .ok (.bipush 12, 2) := by decide +kernel
theorem dX3_dawn_18 : decode cX3_dawn 18 = .ok (.iaload, 1) := by decide +kernel
theorem dX3_dawn_19 : decode cX3_dawn 19 = .ok (.goto 4, 3) := by decide +kernel
theorem dX3_dawn_22 : decode cX3_dawn 22 = .ok (.iconst 0, 1) := by decide +kernel
theorem dX3_dawn_23 : decode cX3_dawn 23 = .ok (.ireturn, 1) := by decide +kernel
set_option maxRecDepth 100000 in
set_option maxHeartbeats 4000000 in
theorem X3_dawn_ct {l0 : Nat} {l1 : Int} {m : Mem} {out : Int} (h : X3_dawn l0 l1 m = some out) : shK l0 = 3 + 10 ∧ CT yX3_dawn cX3_dawn 2 (some .int) 1 0 0 [vR l0, vI l1] 312 m (some (vI out)) 312 m := by
  unfold X3_dawn at h
  obtain ⟨hK, h⟩ := ite_some h
  have hlv : 0 < 1 := by decide
  refine ⟨hK, CT.of (by decide +kernel) rfl (Nat.le_of_ble_eq_true rfl) (ls := [some (vR l0), some (vI l1)]) rfl fun g w C _ => ?_⟩
  refine j_iload_n C dX3_dawn_0 rfl ?_
  refine j_if_lt C 22 dX3_dawn_1 rfl h (fun c5 h => ?_) (fun c5 h => ?_)
  · refine j_iconst C dX3_dawn_22 rfl ?_
    exact j_ri C dX3_dawn_23 rfl (Option.some.inj h).symm rfl
  · refine j_iload_n C dX3_dawn_4 rfl ?_
    refine j_bipush C dX3_dawn_5 rfl ?_
    refine j_icmp_ge C 22 dX3_dawn_7 rfl h (fun c4 h => ?_) (fun c4 h => ?_)
    · refine j_iconst C dX3_dawn_22 rfl ?_
      exact j_ri C dX3_dawn_23 rfl (Option.some.inj h).symm rfl
    · refine j_aload_n C dX3_dawn_10 rfl ?_
      refine j_getR C dX3_dawn_11 CF3 (by decide) fl_X3_37 rfl rfl h (fun t1 h => ?_)
      refine j_iload_n C dX3_dawn_14 rfl ?_
      refine j_aald C dX3_dawn_15 rfl h (fun t2 h => ?_)
      refine j_bipush C dX3_dawn_16 rfl ?_
      refine j_iald C dX3_dawn_18 rfl h (fun t3 h => ?_)
      refine j_goto C 23 dX3_dawn_19 rfl ?_
      exact j_ri C dX3_dawn_23 rfl (Option.some.inj h).symm rfl
theorem dX3_allByDawn_0 : decode cX3_allByDawn 0 = .ok (.iconst 0, 1) := by decide +kernel
theorem dX3_allByDawn_1 : decode cX3_allByDawn 1 = .ok (.istore_n 2, 1) := by decide +kernel
theorem dX3_allByDawn_2 : decode cX3_allByDawn 2 = .ok (.iconst 0, 1) := by decide +kernel
theorem dX3_allByDawn_3 : decode cX3_allByDawn 3 = .ok (.istore_n 3, 1) := by decide +kernel
theorem dX3_allByDawn_4 : decode cX3_allByDawn 4 = .ok (.iload_n 3, 1) := by decide +kernel
theorem dX3_allByDawn_5 : decode cX3_allByDawn 5 = .ok (.aload_n 1, 1) := by decide +kernel
theorem dX3_allByDawn_6 : decode cX3_allByDawn 6 = .ok (.getfield 65, 3) := by decide +kernel
theorem dX3_allByDawn_9 : decode cX3_allByDawn 9 = .ok (.if_icmp .ge 17, 3) := by decide +kernel
theorem dX3_allByDawn_12 : decode cX3_allByDawn 12 = .ok (.iload_n 2, 1) := by decide +kernel
theorem dX3_allByDawn_13 : decode cX3_allByDawn 13 = .ok (.aload_n 0, 1) := by decide +kernel
theorem dX3_allByDawn_14 : decode cX3_allByDawn 14 = .ok (.iload_n 3, 1) := by decide +kernel
theorem dX3_allByDawn_15 : decode cX3_allByDawn 15 = .ok (.invokevirtual 146, 3) := by decide +kernel
theorem dX3_allByDawn_18 : decode cX3_allByDawn 18 = .ok (.iadd, 1) := by decide +kernel
theorem dX3_allByDawn_19 : decode cX3_allByDawn 19 = .ok (.istore_n 2, 1) := by decide +kernel
theorem dX3_allByDawn_20 : decode cX3_allByDawn 20 = .ok (.iinc 3 1, 3) := by decide +kernel
theorem dX3_allByDawn_23 : decode cX3_allByDawn 23 = .ok (.goto (-19), 3) := by decide +kernel
theorem dX3_allByDawn_26 : decode cX3_allByDawn 26 = .ok (.iload_n 2, 1) := by decide +kernel
theorem dX3_allByDawn_27 : decode cX3_allByDawn 27 = .ok (.ireturn, 1) := by decide +kernel
set_option maxRecDepth 100000 in
set_option maxHeartbeats 4000000 in
theorem X3_allByDawn_L4_bok {g : Gm} {w : Wd} (C : Cx g w RX3 cX3_allByDawn 4 (some .int)) {lv : Nat} (hlv : 1 < lv) {N : Nat} {r4 : Nat → Nat → Int → Int → Option Int} {l0 : Nat} {l1 : Nat} {l2 : Int} {l3 : Int} {m : Mem} {out : Int} (hr4 : ∀ l0 l1 l2 l3, r4 l0 l1 l2 l3 = some out → Jd g w 4 (rmL lv 0 0) (Qm g w (some (vI out)) m) 4 [some (vR l0), some (vR l1), some (vI l2), some (vI l3)] [] 312 m 0 0) (h : X3_allByDawn_L4_b N m r4 l0 l1 l2 l3 = some out) : Jd g w 4 (rmL lv 0 0) (Qm g w (some (vI out)) m) 4 [some (vR l0), some (vR l1), some (vI l2), some (vI l3)] [] 312 m 0 0 := by
  unfold X3_allByDawn_L4_b at h
  refine j_iload_n C dX3_allByDawn_4 rfl ?_
  refine j_aload_n C dX3_allByDawn_5 rfl ?_
  refine j_getI C dX3_allByDawn_6 CF5 (by decide) fl_X3_65 rfl rfl h (fun t1 h => ?_)
  refine j_icmp_ge C 26 dX3_allByDawn_9 rfl h (fun c3 h => ?_) (fun c3 h => ?_)
  · refine j_iload_n C dX3_allByDawn_26 rfl ?_
    exact j_ri C dX3_allByDawn_27 rfl (Option.some.inj h).symm rfl
  · refine j_iload_n C dX3_allByDawn_12 rfl ?_
    refine j_aload_n C dX3_allByDawn_13 rfl ?_
    refine j_iload_n C dX3_allByDawn_14 rfl ?_
    obtain ⟨p2, ep2, h⟩ := bind_some h
    have qp2 := X3_dawn_ct ep2
    refine j_cVI C dX3_allByDawn_15 vl_X3_146 CF3 rfl qp2.1 qp2.2 (by omega) rfl rfl (Nat.le_of_ble_eq_true rfl) ?_
    refine j_iadd C dX3_allByDawn_18 ?_
    refine j_istore_n (ls' := [some (vR _), some (vR _), some (vI _), some (vI _)]) C dX3_allByDawn_19 (by decide) rfl ?_
    refine j_iinc (ls' := [some (vR _), some (vR _), some (vI _), some (vI _)]) C dX3_allByDawn_20 rfl (by decide) rfl ?_
    refine j_goto C 4 dX3_allByDawn_23 rfl ?_
    exact hr4 _ _ _ _ h
set_option maxRecDepth 100000 in
set_option maxHeartbeats 4000000 in
theorem X3_allByDawn_L4_ok {g : Gm} {w : Wd} (C : Cx g w RX3 cX3_allByDawn 4 (some .int)) {lv : Nat} (hlv : 1 < lv) {N : Nat} {m : Mem} {out : Int} (f : Nat) : ∀ {l0 : Nat} {l1 : Nat} {l2 : Int} {l3 : Int}, X3_allByDawn_L4 N m f l0 l1 l2 l3 = some out → Jd g w 4 (rmL lv 0 0) (Qm g w (some (vI out)) m) 4 [some (vR l0), some (vR l1), some (vI l2), some (vI l3)] [] 312 m 0 0 := by
  induction f with
  | zero => intro l0 l1 l2 l3 h; exact none_ne (α := Int) h
  | succ f ih => intro l0 l1 l2 l3 h; exact X3_allByDawn_L4_bok C hlv (fun l0 l1 l2 l3 h => ih h) h
set_option maxRecDepth 100000 in
set_option maxHeartbeats 4000000 in
theorem X3_allByDawn_ct {N : Nat} {l0 : Nat} {l1 : Nat} {m : Mem} {out : Int} (h : X3_allByDawn N l0 l1 m = some out) : shK l0 = 3 + 10 ∧ CT yX3_allByDawn cX3_allByDawn 4 (some .int) 2 0 0 [vR l0, vR l1] 312 m (some (vI out)) 312 m := by
  unfold X3_allByDawn at h
  obtain ⟨hK, h⟩ := ite_some h
  have hlv : 1 < 2 := by decide
  refine ⟨hK, CT.of (by decide +kernel) rfl (Nat.le_of_ble_eq_true rfl) (ls := [some (vR l0), some (vR l1), none, none]) rfl fun g w C _ => ?_⟩
  refine j_iconst C dX3_allByDawn_0 rfl ?_
  refine j_istore_n (ls' := [some (vR _), some (vR _), some (vI _), none]) C dX3_allByDawn_1 (by decide) rfl ?_
  refine j_iconst C dX3_allByDawn_2 rfl ?_
  refine j_istore_n (ls' := [some (vR _), some (vR _), some (vI _), some (vI _)]) C dX3_allByDawn_3 (by decide) rfl ?_
  exact X3_allByDawn_L4_ok C hlv N h
theorem dX5_hasCistern_0 : decode cX5_hasCistern 0 = .ok (.iconst 0, 1) := by decide +kernel
theorem dX5_hasCistern_1 : decode cX5_hasCistern 1 = .ok (.istore_n 2, 1) := by decide +kernel
theorem dX5_hasCistern_2 : decode cX5_hasCistern 2 = .ok (.iload_n 2, 1) := by decide +kernel
theorem dX5_hasCistern_3 : decode cX5_hasCistern 3 = .ok (.aload_n 0, 1) := by decide +kernel
theorem dX5_hasCistern_4 : decode cX5_hasCistern 4 = .ok (.getfield 37, 3) := by decide +kernel
theorem dX5_hasCistern_7 : decode cX5_hasCistern 7 = .ok (.if_icmp .ge 21, 3) := by decide +kernel
theorem dX5_hasCistern_10 : decode cX5_hasCistern 10 = .ok (.aload_n 0, 1) := by decide +kernel
theorem dX5_hasCistern_11 : decode cX5_hasCistern 11 = .ok (.getfield 40, 3) := by decide +kernel
theorem dX5_hasCistern_14 : decode cX5_hasCistern 14 = .ok (.iload_n 2, 1) := by decide +kernel
theorem dX5_hasCistern_15 : decode cX5_hasCistern 15 = .ok (.iaload, 1) := by decide +kernel
theorem dX5_hasCistern_16 : decode cX5_hasCistern 16 = .ok (.iload_n 1, 1) := by decide +kernel
theorem dX5_hasCistern_17 : decode cX5_hasCistern 17 = .ok (.if_icmp .ne 5, 3) := by decide +kernel
theorem dX5_hasCistern_20 : decode cX5_hasCistern 20 = .ok (.iconst 1, 1) := by decide +kernel
theorem dX5_hasCistern_21 : decode cX5_hasCistern 21 = .ok (.ireturn, 1) := by decide +kernel
theorem dX5_hasCistern_22 : decode cX5_hasCistern 22 = .ok (.iinc 2 1, 3) := by decide +kernel
theorem dX5_hasCistern_25 : decode cX5_hasCistern 25 = .ok (.goto (-23), 3) := by decide +kernel
theorem dX5_hasCistern_28 : decode cX5_hasCistern 28 = .ok (.iconst 0, 1) := by decide +kernel
theorem dX5_hasCistern_29 : decode cX5_hasCistern 29 = .ok (.ireturn, 1) := by decide +kernel
set_option maxRecDepth 100000 in
set_option maxHeartbeats 4000000 in
theorem X5_hasCistern_L2_bok {g : Gm} {w : Wd} (C : Cx g w RX5 cX5_hasCistern 3 (some .boolean)) {lv : Nat} (hlv : 0 < lv) {N : Nat} {r2 : Nat → Int → Int → Option Int} {l0 : Nat} {l1 : Int} {l2 : Int} {m : Mem} {out : Int} (hr2 : ∀ l0 l1 l2, r2 l0 l1 l2 = some out → Jd g w 3 (rmL lv 0 0) (Qm g w (some (vI out)) m) 2 [some (vR l0), some (vI l1), some (vI l2)] [] 312 m 0 0) (h : X5_hasCistern_L2_b N m r2 l0 l1 l2 = some out) : Jd g w 3 (rmL lv 0 0) (Qm g w (some (vI out)) m) 2 [some (vR l0), some (vI l1), some (vI l2)] [] 312 m 0 0 := by
  unfold X5_hasCistern_L2_b at h
  refine j_iload_n C dX5_hasCistern_2 rfl ?_
  refine j_aload_n C dX5_hasCistern_3 rfl ?_
  refine j_getI C dX5_hasCistern_4 CF5 (by decide) fl_X5_37 rfl rfl h (fun t1 h => ?_)
  refine j_icmp_ge C 28 dX5_hasCistern_7 rfl h (fun c5 h => ?_) (fun c5 h => ?_)
  · refine j_iconst C dX5_hasCistern_28 rfl ?_
    exact j_rz C dX5_hasCistern_29 rfl (retZ_some h) rfl
  · refine j_aload_n C dX5_hasCistern_10 rfl ?_
    refine j_getR C dX5_hasCistern_11 CF5 (by decide) fl_X5_40 rfl rfl h (fun t2 h => ?_)
    refine j_iload_n C dX5_hasCistern_14 rfl ?_
    refine j_iald C dX5_hasCistern_15 rfl h (fun t3 h => ?_)
    refine j_iload_n C dX5_hasCistern_16 rfl ?_
    refine j_icmp_ne C 22 dX5_hasCistern_17 rfl h (fun c4 h => ?_) (fun c4 h => ?_)
    · refine j_iinc (ls' := [some (vR _), some (vI _), some (vI _)]) C dX5_hasCistern_22 rfl (by decide) rfl ?_
      refine j_goto C 2 dX5_hasCistern_25 rfl ?_
      exact hr2 _ _ _ h
    · refine j_iconst C dX5_hasCistern_20 rfl ?_
      exact j_rz C dX5_hasCistern_21 rfl (retZ_some h) rfl
set_option maxRecDepth 100000 in
set_option maxHeartbeats 4000000 in
theorem X5_hasCistern_L2_ok {g : Gm} {w : Wd} (C : Cx g w RX5 cX5_hasCistern 3 (some .boolean)) {lv : Nat} (hlv : 0 < lv) {N : Nat} {m : Mem} {out : Int} (f : Nat) : ∀ {l0 : Nat} {l1 : Int} {l2 : Int}, X5_hasCistern_L2 N m f l0 l1 l2 = some out → Jd g w 3 (rmL lv 0 0) (Qm g w (some (vI out)) m) 2 [some (vR l0), some (vI l1), some (vI l2)] [] 312 m 0 0 := by
  induction f with
  | zero => intro l0 l1 l2 h; exact none_ne (α := Int) h
  | succ f ih => intro l0 l1 l2 h; exact X5_hasCistern_L2_bok C hlv (fun l0 l1 l2 h => ih h) h
set_option maxRecDepth 100000 in
set_option maxHeartbeats 4000000 in
theorem X5_hasCistern_ct {N : Nat} {l0 : Nat} {l1 : Int} {m : Mem} {out : Int} (h : X5_hasCistern N l0 l1 m = some out) : shK l0 = 5 + 10 ∧ CT yX5_hasCistern cX5_hasCistern 3 (some .boolean) 1 0 0 [vR l0, vI l1] 312 m (some (vI out)) 312 m := by
  unfold X5_hasCistern at h
  obtain ⟨hK, h⟩ := ite_some h
  have hlv : 0 < 1 := by decide
  refine ⟨hK, CT.of (by decide +kernel) rfl (Nat.le_of_ble_eq_true rfl) (ls := [some (vR l0), some (vI l1), none]) rfl fun g w C _ => ?_⟩
  refine j_iconst C dX5_hasCistern_0 rfl ?_
  refine j_istore_n (ls' := [some (vR _), some (vI _), some (vI _)]) C dX5_hasCistern_1 (by decide) rfl ?_
  exact X5_hasCistern_L2_ok C hlv N h
theorem dX5_contents_0 : decode cX5_contents 0 = .ok (.aload_n 1, 1) := by decide +kernel
theorem dX5_contents_1 : decode cX5_contents 1 = .ok (.iload_n 2, 1) := by decide +kernel
theorem dX5_contents_2 : decode cX5_contents 2 = .ok (.invokevirtual 125, 3) := by decide +kernel
theorem dX5_contents_5 : decode cX5_contents 5 = .ok (.ifCond .eq 5, 3) := by decide +kernel
theorem dX5_contents_8 : decode cX5_contents 8 = .ok (.iconst 1, 1) := by decide +kernel
theorem dX5_contents_9 : decode cX5_contents 9 = .ok (.ireturn, 1) := by decide +kernel
theorem dX5_contents_10 : decode cX5_contents 10 = .ok (.aload_n 0, 1) := by decide +kernel
theorem dX5_contents_11 : decode cX5_contents 11 = .ok (.iload_n 2, 1) := by decide +kernel
theorem dX5_contents_12 : decode cX5_contents 12 = .ok (.invokevirtual 118, 3) := by decide +kernel
theorem dX5_contents_15 : decode cX5_contents 15 = .ok (.ifCond .ne 5, 3) := by decide +kernel
theorem dX5_contents_18 : decode cX5_contents 18 = .ok (.iconst 0, 1) := by decide +kernel
theorem dX5_contents_19 : decode cX5_contents 19 = .ok (.ireturn, 1) := by decide +kernel
theorem dX5_contents_20 : decode cX5_contents 20 = .ok (.aload_n 0, 1) := by decide +kernel
theorem dX5_contents_21 : decode cX5_contents 21 = .ok (.getfield 27, 3) := by decide +kernel
theorem dX5_contents_24 : decode cX5_contents 24 = .ok (.iload_n 2, 1) := by decide +kernel
theorem dX5_contents_25 : decode cX5_contents 25 = .ok (.iaload, 1) := by decide +kernel
theorem dX5_contents_26 : decode cX5_contents 26 = .ok (.iconst 1, 1) := by decide +kernel
theorem dX5_contents_27 : decode cX5_contents 27 = .ok (.if_icmp .ne 5, 3) := by decide +kernel
theorem dX5_contents_30 : decode cX5_contents 30 = .ok (.iconst 2, 1) := by decide +kernel
theorem dX5_contents_31 : decode cX5_contents 31 = .ok (.ireturn, 1) := by decide +kernel
theorem dX5_contents_32 : decode cX5_contents 32 = .ok (.iconst 0, 1) := by decide +kernel
theorem dX5_contents_33 : decode cX5_contents 33 = .ok (.istore_n 3, 1) := by decide +kernel
theorem dX5_contents_34 : decode cX5_contents 34 = .ok (.iload_n 3, 1) := by decide +kernel
theorem dX5_contents_35 : decode cX5_contents 35 = .ok (.aload_n 0, 1) := by decide +kernel
theorem dX5_contents_36 : decode cX5_contents 36 = .ok (.getfield 46, 3) := by decide +kernel
theorem dX5_contents_39 : decode cX5_contents 39 = .ok (.if_icmp .ge 21, 3) := by decide +kernel
theorem dX5_contents_42 : decode cX5_contents 42 = .ok (.aload_n 1, 1) := by decide +kernel
theorem dX5_contents_43 : decode cX5_contents 43 = .ok (.getfield 110, 3) := by decide +kernel
theorem dX5_contents_46 : decode cX5_contents 46 = .ok (.iload_n 3, 1) := by decide +kernel
theorem dX5_contents_47 : decode cX5_contents 47 = .ok (.iaload, 1) := by decide +kernel
theorem dX5_contents_48 : decode cX5_contents 48 = .ok (.iload_n 2, 1) := by decide +kernel
theorem dX5_contents_49 : decode cX5_contents 49 = .ok (.if_icmp .ne 5, 3) := by decide +kernel
theorem dX5_contents_52 : decode cX5_contents 52 = .ok (.iconst 3, 1) := by decide +kernel
theorem dX5_contents_53 : decode cX5_contents 53 = .ok (.ireturn, 1) := by decide +kernel
theorem dX5_contents_54 : decode cX5_contents 54 = .ok (.iinc 3 1, 3) := by decide +kernel
theorem dX5_contents_57 : decode cX5_contents 57 = .ok (.goto (-23), 3) := by decide +kernel
theorem dX5_contents_60 : decode cX5_contents 60 = .ok (.aload_n 0, 1) := by decide +kernel
theorem dX5_contents_61 : decode cX5_contents 61 = .ok (.iload_n 2, 1) := by decide +kernel
theorem dX5_contents_62 : decode cX5_contents 62 = .ok (.invokevirtual 128, 3) := by decide +kernel
theorem dX5_contents_65 : decode cX5_contents 65 = .ok (.ifCond .eq 7, 3) := by decide +kernel
theorem dX5_contents_68 : decode cX5_contents 68 = .ok (.iconst 4, 1) := by decide +kernel
theorem dX5_contents_69 : decode cX5_contents 69 = .ok (.goto 4, 3) := by decide +kernel
theorem dX5_contents_72 : decode cX5_contents 72 = .ok (.iconst 0, 1) := by decide +kernel
theorem dX5_contents_73 : decode cX5_contents 73 = .ok (.ireturn, 1) := by decide +kernel
set_option maxRecDepth 100000 in
set_option maxHeartbeats 4000000 in
theorem X5_contents_L34_bok {g : Gm} {w : Wd} (C : Cx g w RX5 cX5_contents 4 (some .int)) {lv : Nat} (hlv : 1 < lv) {N : Nat} {k60 : Nat → Int → Option Int} {r34 : Nat → Nat → Int → Int → Option Int} {l0 : Nat} {l1 : Nat} {l2 : Int} {l3 : Int} {m : Mem} {out : Int} (hk60 : ∀ l0 l2, k60 l0 l2 = some out → Jd g w 4 (rmL lv 0 0) (Qm g w (some (vI out)) m) 60 [some (vR l0), none, some (vI l2), none] [] 312 m 0 0) (hr34 : ∀ l0 l1 l2 l3, r34 l0 l1 l2 l3 = some out → Jd g w 4 (rmL lv 0 0) (Qm g w (some (vI out)) m) 34 [some (vR l0), some (vR l1), some (vI l2), some (vI l3)] [] 312 m 0 0) (h : X5_contents_L34_b N k60 m r34 l0 l1 l2 l3 = some out) : Jd g w 4 (rmL lv 0 0) (Qm g w (some (vI out)) m) 34 [some (vR l0), some (vR l1), some (vI l2), some (vI l3)] [] 312 m 0 0 := by
  unfold X5_contents_L34_b at h
  refine j_iload_n C dX5_contents_34 rfl ?_
  refine j_aload_n C dX5_contents_35 rfl ?_
  refine j_getI C dX5_contents_36 CF5 (by decide) fl_X5_46 rfl rfl h (fun t5 h => ?_)
  refine j_icmp_ge C 60 dX5_contents_39 rfl h (fun c9 h => ?_) (fun c9 h => ?_)
  · refine j_mask [true, false, true, false] (ls' := [some (vR _), none, some (vI _), none]) rfl ?_
    exact hk60 _ _ h
  · refine j_aload_n C dX5_contents_42 rfl ?_
    refine j_getR C dX5_contents_43 CF1 (by decide) fl_X5_110 rfl rfl h (fun t6 h => ?_)
    refine j_iload_n C dX5_contents_46 rfl ?_
    refine j_iald C dX5_contents_47 rfl h (fun t7 h => ?_)
    refine j_iload_n C dX5_contents_48 rfl ?_
    refine j_icmp_ne C 54 dX5_contents_49 rfl h (fun c8 h => ?_) (fun c8 h => ?_)
    · refine j_iinc (ls' := [some (vR _), some (vR _), some (vI _), some (vI _)]) C dX5_contents_54 rfl (by decide) rfl ?_
      refine j_goto C 34 dX5_contents_57 rfl ?_
      exact hr34 _ _ _ _ h
    · refine j_iconst C dX5_contents_52 rfl ?_
      exact j_ri C dX5_contents_53 rfl (Option.some.inj h).symm rfl
set_option maxRecDepth 100000 in
set_option maxHeartbeats 4000000 in
theorem X5_contents_L34_ok {g : Gm} {w : Wd} (C : Cx g w RX5 cX5_contents 4 (some .int)) {lv : Nat} (hlv : 1 < lv) {N : Nat} {k60 : Nat → Int → Option Int} {m : Mem} {out : Int} (hk60 : ∀ l0 l2, k60 l0 l2 = some out → Jd g w 4 (rmL lv 0 0) (Qm g w (some (vI out)) m) 60 [some (vR l0), none, some (vI l2), none] [] 312 m 0 0) (f : Nat) : ∀ {l0 : Nat} {l1 : Nat} {l2 : Int} {l3 : Int}, X5_contents_L34 N k60 m f l0 l1 l2 l3 = some out → Jd g w 4 (rmL lv 0 0) (Qm g w (some (vI out)) m) 34 [some (vR l0), some (vR l1), some (vI l2), some (vI l3)] [] 312 m 0 0 := by
  induction f with
  | zero => intro l0 l1 l2 l3 h; exact none_ne (α := Int) h
  | succ f ih => intro l0 l1 l2 l3 h; exact X5_contents_L34_bok C hlv hk60 (fun l0 l1 l2 l3 h => ih h) h
set_option maxRecDepth 100000 in
set_option maxHeartbeats 4000000 in
theorem X5_contents_ct {N : Nat} {l0 : Nat} {l1 : Nat} {l2 : Int} {m : Mem} {out : Int} (h : X5_contents N l0 l1 l2 m = some out) : shK l0 = 5 + 10 ∧ CT yX5_contents cX5_contents 4 (some .int) 2 0 0 [vR l0, vR l1, vI l2] 312 m (some (vI out)) 312 m := by
  unfold X5_contents at h
  obtain ⟨hK, h⟩ := ite_some h
  have hlv : 1 < 2 := by decide
  refine ⟨hK, CT.of (by decide +kernel) rfl (Nat.le_of_ble_eq_true rfl) (ls := [some (vR l0), some (vR l1), some (vI l2), none]) rfl fun g w C _ => ?_⟩
  refine j_aload_n C dX5_contents_0 rfl ?_
  refine j_iload_n C dX5_contents_1 rfl ?_
  obtain ⟨p1, ep1, h⟩ := bind_some h
  have qp1 := X1_hasWall_ct ep1
  refine j_cVI C dX5_contents_2 vl_X5_125 CF1 rfl qp1.1 qp1.2 (by omega) rfl rfl (Nat.le_of_ble_eq_true rfl) ?_
  refine j_if_eq C 10 dX5_contents_5 rfl h (fun c16 h => ?_) (fun c16 h => ?_)
  · refine j_aload_n C dX5_contents_10 rfl ?_
    refine j_iload_n C dX5_contents_11 rfl ?_
    obtain ⟨p2, ep2, h⟩ := bind_some h
    have qp2 := X5_isCell_ct ep2
    refine j_cVI C dX5_contents_12 vl_X5_118 CF5 rfl qp2.1 qp2.2 (by omega) rfl rfl (Nat.le_of_ble_eq_true rfl) ?_
    refine j_if_ne C 20 dX5_contents_15 rfl h (fun c15 h => ?_) (fun c15 h => ?_)
    · refine j_aload_n C dX5_contents_20 rfl ?_
      refine j_getR C dX5_contents_21 CF5 (by decide) fl_X5_27 rfl rfl h (fun t3 h => ?_)
      refine j_iload_n C dX5_contents_24 rfl ?_
      refine j_iald C dX5_contents_25 rfl h (fun t4 h => ?_)
      refine j_iconst C dX5_contents_26 rfl ?_
      refine j_icmp_ne C 32 dX5_contents_27 rfl h (fun c14 h => ?_) (fun c14 h => ?_)
      · refine j_iconst C dX5_contents_32 rfl ?_
        refine j_istore_n (ls' := [some (vR _), some (vR _), some (vI _), some (vI _)]) C dX5_contents_33 (by decide) rfl ?_
        refine X5_contents_L34_ok C hlv (fun z10 z11 h => ?_) N h
        refine j_aload_n C dX5_contents_60 rfl ?_
        refine j_iload_n C dX5_contents_61 rfl ?_
        obtain ⟨p12, ep12, h⟩ := bind_some h
        have qp12 := X5_hasCistern_ct ep12
        refine j_cVI C dX5_contents_62 vl_X5_128 CF5 rfl qp12.1 qp12.2 (by omega) rfl rfl (Nat.le_of_ble_eq_true rfl) ?_
        refine j_if_eq C 72 dX5_contents_65 rfl h (fun c13 h => ?_) (fun c13 h => ?_)
        · refine j_iconst C dX5_contents_72 rfl ?_
          exact j_ri C dX5_contents_73 rfl (Option.some.inj h).symm rfl
        · refine j_iconst C dX5_contents_68 rfl ?_
          refine j_goto C 73 dX5_contents_69 rfl ?_
          exact j_ri C dX5_contents_73 rfl (Option.some.inj h).symm rfl
      · refine j_iconst C dX5_contents_30 rfl ?_
        exact j_ri C dX5_contents_31 rfl (Option.some.inj h).symm rfl
    · refine j_iconst C dX5_contents_18 rfl ?_
      exact j_ri C dX5_contents_19 rfl (Option.some.inj h).symm rfl
  · refine j_iconst C dX5_contents_8 rfl ?_
    exact j_ri C dX5_contents_9 rfl (Option.some.inj h).symm rfl
theorem dX5_isFree_0 : decode cX5_isFree 0 = .ok (.aload_n 0, 1) := by decide +kernel
theorem dX5_isFree_1 : decode cX5_isFree 1 = .ok (.iload_n 2, 1) := by decide +kernel
theorem dX5_isFree_2 : decode cX5_isFree 2 = .ok (.invokevirtual 118, 3) := by decide +kernel
theorem dX5_isFree_5 : decode cX5_isFree 5 = .ok (.ifCond .eq 16, 3) := by decide +kernel
theorem dX5_isFree_8 : decode cX5_isFree 8 = .ok (.aload_n 0, 1) := by decide +kernel
theorem dX5_isFree_9 : decode cX5_isFree 9 = .ok (.aload_n 1, 1) := by decide +kernel
theorem dX5_isFree_10 : decode cX5_isFree 10 = .ok (.iload_n 2, 1) := by decide +kernel
theorem dX5_isFree_11 : decode cX5_isFree 11 = .ok (.invokevirtual 131, 3) := by decide +kernel
theorem dX5_isFree_14 : decode cX5_isFree 14 = .ok (.ifCond .ne 7, 3) := by decide +kernel
theorem dX5_isFree_17 : decode cX5_isFree 17 = .ok (.iconst 1, 1) := by decide +kernel
theorem dX5_isFree_18 : decode cX5_isFree 18 = .ok (.goto 4, 3) := by decide +kernel
theorem dX5_isFree_21 : decode cX5_isFree 21 = .ok (.iconst 0, 1) := by decide +kernel
theorem dX5_isFree_22 : decode cX5_isFree 22 = .ok (.ireturn, 1) := by decide +kernel
set_option maxRecDepth 100000 in
set_option maxHeartbeats 4000000 in
theorem X5_isFree_ct {N : Nat} {l0 : Nat} {l1 : Nat} {l2 : Int} {m : Mem} {out : Int} (h : X5_isFree N l0 l1 l2 m = some out) : shK l0 = 5 + 10 ∧ CT yX5_isFree cX5_isFree 3 (some .boolean) 3 0 0 [vR l0, vR l1, vI l2] 312 m (some (vI out)) 312 m := by
  unfold X5_isFree at h
  obtain ⟨hK, h⟩ := ite_some h
  have hlv : 2 < 3 := by decide
  refine ⟨hK, CT.of (by decide +kernel) rfl (Nat.le_of_ble_eq_true rfl) (ls := [some (vR l0), some (vR l1), some (vI l2)]) rfl fun g w C _ => ?_⟩
  refine j_aload_n C dX5_isFree_0 rfl ?_
  refine j_iload_n C dX5_isFree_1 rfl ?_
  obtain ⟨p1, ep1, h⟩ := bind_some h
  have qp1 := X5_isCell_ct ep1
  refine j_cVI C dX5_isFree_2 vl_X5_118 CF5 rfl qp1.1 qp1.2 (by omega) rfl rfl (Nat.le_of_ble_eq_true rfl) ?_
  refine j_if_eq C 21 dX5_isFree_5 rfl h (fun c4 h => ?_) (fun c4 h => ?_)
  · refine j_iconst C dX5_isFree_21 rfl ?_
    exact j_rz C dX5_isFree_22 rfl (retZ_some h) rfl
  · refine j_aload_n C dX5_isFree_8 rfl ?_
    refine j_aload_n C dX5_isFree_9 rfl ?_
    refine j_iload_n C dX5_isFree_10 rfl ?_
    obtain ⟨p2, ep2, h⟩ := bind_some h
    have qp2 := X5_contents_ct ep2
    refine j_cVI C dX5_isFree_11 vl_X5_131 CF5 rfl qp2.1 qp2.2 (by omega) rfl rfl (Nat.le_of_ble_eq_true rfl) ?_
    refine j_if_ne C 21 dX5_isFree_14 rfl h (fun c3 h => ?_) (fun c3 h => ?_)
    · refine j_iconst C dX5_isFree_21 rfl ?_
      exact j_rz C dX5_isFree_22 rfl (retZ_some h) rfl
    · refine j_iconst C dX5_isFree_17 rfl ?_
      refine j_goto C 22 dX5_isFree_18 rfl ?_
      exact j_rz C dX5_isFree_22 rfl (retZ_some h) rfl
theorem dX0_canHang_0 : decode cX0_canHang 0 = .ok (.aload_n 1, 1) := by decide +kernel
theorem dX0_canHang_1 : decode cX0_canHang 1 = .ok (.getfield 100, 3) := by decide +kernel
theorem dX0_canHang_4 : decode cX0_canHang 4 = .ok (.aload_n 0, 1) := by decide +kernel
theorem dX0_canHang_5 : decode cX0_canHang 5 = .ok (.getfield 90, 3) := by decide +kernel
theorem dX0_canHang_8 : decode cX0_canHang 8 = .ok (.iload_n 2, 1) := by decide +kernel
theorem dX0_canHang_9 : decode cX0_canHang 9 = .ok (.iaload, 1) := by decide +kernel
theorem dX0_canHang_10 : decode cX0_canHang 10 = .ok (.iaload, 1) := by decide +kernel
theorem dX0_canHang_11 : decode cX0_canHang 11 = .ok (.iload_n 3, 1) := by decide +kernel
theorem dX0_canHang_12 : decode cX0_canHang 12 = .ok (.if_icmp .eq 12, 3) := by decide +kernel
theorem dX0_canHang_15 : decode cX0_canHang 15 = .ok (.aload_n 0, 1) := by decide +kernel
theorem dX0_canHang_16 : decode cX0_canHang 16 = .ok (.aload_n 1, 1) := by decide +kernel
theorem dX0_canHang_17 : decode cX0_canHang 17 = .ok (.iload_n 3, 1) := by decide +kernel
theorem dX0_canHang_18 : decode cX0_canHang 18 = .ok (.invokevirtual 105, 3) := by decide +kernel
theorem dX0_canHang_21 : decode cX0_canHang 21 = .ok (.ifCond .eq 7, 3) := by decide +kernel
theorem dX0_canHang_24 : decode cX0_canHang 24 = .ok (.iconst 1, 1) := by decide +kernel
theorem dX0_canHang_25 : decode cX0_canHang 25 = .ok (.goto 4, 3) := by decide +kernel
theorem dX0_canHang_28 : decode cX0_canHang 28 = .ok (.iconst 0, 1) := by decide +kernel
theorem dX0_canHang_29 : decode cX0_canHang 29 = .ok (.ireturn, 1) := by decide +kernel
set_option maxRecDepth 100000 in
set_option maxHeartbeats 4000000 in
theorem X0_canHang_J24_ok {g : Gm} {w : Wd} (C : Cx g w RX0 cX0_canHang 4 (some .boolean)) {lv : Nat} (hlv : 3 < lv) {N : Nat}  {m : Mem} {out : Int} (h : X0_canHang_J24 N m = some out) : Jd g w 4 (rmL lv 0 0) (Qm g w (some (vI out)) m) 24 [none, none, none, none] [] 312 m 0 0 := by
  unfold X0_canHang_J24 at h
  refine j_iconst C dX0_canHang_24 rfl ?_
  refine j_goto C 29 dX0_canHang_25 rfl ?_
  exact j_rz C dX0_canHang_29 rfl (retZ_some h) rfl
set_option maxRecDepth 100000 in
set_option maxHeartbeats 4000000 in
theorem X0_canHang_ct {N : Nat} {l0 : Nat} {l1 : Nat} {l2 : Int} {l3 : Int} {m : Mem} {out : Int} (h : X0_canHang N l0 l1 l2 l3 m = some out) : CT yX0_canHang cX0_canHang 4 (some .boolean) 4 0 0 [vR l0, vR l1, vI l2, vI l3] 312 m (some (vI out)) 312 m := by
  unfold X0_canHang at h
  have hlv : 3 < 4 := by decide
  refine CT.of (by decide +kernel) rfl (Nat.le_of_ble_eq_true rfl) (ls := [some (vR l0), some (vR l1), some (vI l2), some (vI l3)]) rfl fun g w C _ => ?_
  refine j_aload_n C dX0_canHang_0 rfl ?_
  refine j_getR C dX0_canHang_1 CF1 (by decide) fl_X0_100 rfl rfl h (fun t1 h => ?_)
  refine j_aload_n C dX0_canHang_4 rfl ?_
  refine j_getR C dX0_canHang_5 CF5 (by decide) fl_X0_90 rfl rfl h (fun t2 h => ?_)
  refine j_iload_n C dX0_canHang_8 rfl ?_
  refine j_iald C dX0_canHang_9 rfl h (fun t3 h => ?_)
  refine j_iald C dX0_canHang_10 rfl h (fun t4 h => ?_)
  refine j_iload_n C dX0_canHang_11 rfl ?_
  refine j_icmp_eq C 24 dX0_canHang_12 rfl h (fun c7 h => ?_) (fun c7 h => ?_)
  · refine j_mask [false, false, false, false] (ls' := [none, none, none, none]) rfl ?_
    exact X0_canHang_J24_ok C hlv h
  · refine j_aload_n C dX0_canHang_15 rfl ?_
    refine j_aload_n C dX0_canHang_16 rfl ?_
    refine j_iload_n C dX0_canHang_17 rfl ?_
    obtain ⟨p5, ep5, h⟩ := bind_some h
    have qp5 := X5_isFree_ct ep5
    refine j_cVI C dX0_canHang_18 vl_X0_105 CF5 rfl qp5.1 qp5.2 (by omega) rfl rfl (Nat.le_of_ble_eq_true rfl) ?_
    refine j_if_eq C 28 dX0_canHang_21 rfl h (fun c6 h => ?_) (fun c6 h => ?_)
    · refine j_iconst C dX0_canHang_28 rfl ?_
      exact j_rz C dX0_canHang_29 rfl (retZ_some h) rfl
    · refine j_mask [false, false, false, false] (ls' := [none, none, none, none]) rfl ?_
      exact X0_canHang_J24_ok C hlv h
theorem dX0_hangOn_0 : decode cX0_hangOn 0 = .ok (.aload_n 0, 1) := by decide +kernel
theorem dX0_hangOn_1 : decode cX0_hangOn 1 = .ok (.getfield 20, 3) := by decide +kernel
theorem dX0_hangOn_4 : decode cX0_hangOn 4 = .ok (.iload_n 2, 1) := by decide +kernel
theorem dX0_hangOn_5 : decode cX0_hangOn 5 = .ok (.iaload, 1) := by decide +kernel
theorem dX0_hangOn_6 : decode cX0_hangOn 6 = .ok (.istore 4, 2) := by decide +kernel
theorem dX0_hangOn_8 : decode cX0_hangOn 8 = .ok (.iload 4, 2) := by decide +kernel
theorem dX0_hangOn_10 : decode cX0_hangOn 10 = .ok (.ifCond .lt 51, 3) := by decide +kernel
theorem dX0_hangOn_13 : decode cX0_hangOn 13 = .ok (.iload 4, 2) := by decide +kernel
theorem dX0_hangOn_15 : decode cX0_hangOn 15 = .ok (.aload_n 0, 1) := by decide +kernel
theorem dX0_hangOn_16 : decode cX0_hangOn 16 = .ok (.getfield 30, 3) := by decide +kernel
theorem dX0_hangOn_19 : decode cX0_hangOn 19 = .ok (.if_icmp .ge 42, 3) := by decide +kernel
theorem dX0_hangOn_22 : decode cX0_hangOn 22 = .ok (.aload_n 0, 1) := by decide +kernel
theorem dX0_hangOn_23 : decode cX0_hangOn 23 = .ok (.getfield 24, 3) := by decide +kernel
theorem dX0_hangOn_26 : decode cX0_hangOn 26 = .ok (.iload 4, 2) := by decide +kernel
theorem dX0_hangOn_28 : decode cX0_hangOn 28 = .ok (.dup2, 1) := by decide +kernel
theorem dX0_hangOn_29 : decode cX0_hangOn 29 = .ok (.iaload, 1) := by decide +kernel
theorem dX0_hangOn_30 : decode cX0_hangOn 30 = .ok (.iload_n 3, 1) := by decide +kernel
theorem dX0_hangOn_31 : decode cX0_hangOn 31 = .ok (.aload_n 0, 1) := by decide +kernel
theorem dX0_hangOn_32 : decode cX0_hangOn 32 = .ok (.getfield 17, 3) := by decide +kernel
theorem dX0_hangOn_35 : decode cX0_hangOn 35 = .ok (.iload_n 1, 1) := by decide +kernel
theorem dX0_hangOn_36 : decode cX0_hangOn 36 = .ok (.aaload, 1) := by decide +kernel
theorem dX0_hangOn_37 : decode cX0_hangOn 37 = .ok (.iload_n 2, 1) := by decide +kernel
theorem dX0_hangOn_38 : decode cX0_hangOn 38 = .ok (.iaload, 1) := by decide +kernel
theorem dX0_hangOn_39 : decode cX0_hangOn 39 = .ok (.imul, 1) := by decide +kernel
theorem dX0_hangOn_40 : decode cX0_hangOn 40 = .ok (.iadd, 1) := by decide +kernel
theorem dX0_hangOn_41 : decode cX0_hangOn 41 = .ok (.iastore, 1) := by decide +kernel
theorem dX0_hangOn_42 : decode cX0_hangOn 42 = .ok (.aload_n 0, 1) := by decide +kernel
theorem dX0_hangOn_43 : decode cX0_hangOn 43 = .ok (.dup, 1) := by decide +kernel
theorem dX0_hangOn_44 : decode cX0_hangOn 44 = .ok (.getfield 27, 3) := by decide +kernel
theorem dX0_hangOn_47 : decode cX0_hangOn 47 = .ok (.iload_n 3, 1) := by decide +kernel
theorem dX0_hangOn_48 : decode cX0_hangOn 48 = .ok (.aload_n 0, 1) := by decide +kernel
theorem dX0_hangOn_49 : decode cX0_hangOn 49 = .ok (.getfield 17, 3) := by decide +kernel
theorem dX0_hangOn_52 : decode cX0_hangOn 52 = .ok (.iload_n 1, 1) := by decide +kernel
theorem dX0_hangOn_53 : decode cX0_hangOn 53 = .ok (.aaload, 1) := by decide +kernel
theorem dX0_hangOn_54 : decode cX0_hangOn 54 = .ok (.iload_n 2, 1) := by decide +kernel
theorem dX0_hangOn_55 : decode cX0_hangOn 55 = .ok (.iaload, 1) := by decide +kernel
theorem dX0_hangOn_56 : decode cX0_hangOn 56 = .ok (.imul, 1) := by decide +kernel
theorem dX0_hangOn_57 : decode cX0_hangOn 57 = .ok (.iadd, 1) := by decide +kernel
theorem dX0_hangOn_58 : decode cX0_hangOn 58 = .ok (.putfield 27, 3) := by decide +kernel
theorem dX0_hangOn_61 : decode cX0_hangOn 61 = .ok (.aload_n 0, 1) := by decide +kernel
theorem dX0_hangOn_62 : decode cX0_hangOn 62 = .ok (.getfield 33, 3) := by decide +kernel
theorem dX0_hangOn_65 : decode cX0_hangOn 65 = .ok (.iload_n 1, 1) := by decide +kernel
theorem dX0_hangOn_66 : decode cX0_hangOn 66 = .ok (.iload_n 2, 1) := by decide +kernel
theorem dX0_hangOn_67 : decode cX0_hangOn 67 = .ok (.iastore, 1) := by decide +kernel
theorem dX0_hangOn_68 : decode cX0_hangOn 68 = .ok (.return_, 1) := by decide +kernel
set_option maxRecDepth 100000 in
set_option maxHeartbeats 4000000 in
theorem X0_hangOn_J61_ok {g : Gm} {w : Wd} (C : Cx g w RX0 cX0_hangOn 5 none) {lv : Nat} (hlv : 0 < lv) {l0 : Nat} {l1 : Int} {l2 : Int} {m : Mem} {out : Mem} (h : X0_hangOn_J61 l0 l1 l2 m = some out) : Jd g w 5 (rmL lv 0 0) (Qm g w none out) 61 [some (vR l0), some (vI l1), some (vI l2), none, none] [] 312 m 0 0 := by
  unfold X0_hangOn_J61 at h
  refine j_aload_n C dX0_hangOn_61 rfl ?_
  refine j_getR C dX0_hangOn_62 CF0 (by decide) fl_X0_33 rfl rfl h (fun t3 h => ?_)
  refine j_iload_n C dX0_hangOn_65 rfl ?_
  refine j_iload_n C dX0_hangOn_66 rfl ?_
  refine j_iast C dX0_hangOn_67 rfl h (fun m4 h => ?_)
  have e := Option.some.inj h
  subst e
  exact j_rv C dX0_hangOn_68 rfl rfl
set_option maxRecDepth 100000 in
set_option maxHeartbeats 4000000 in
theorem X0_hangOn_ct {l0 : Nat} {l1 : Int} {l2 : Int} {l3 : Int} {m : Mem} {out : Mem} (h : X0_hangOn l0 l1 l2 l3 m = some out) : shK l0 = 0 + 10 ∧ CT yX0_hangOn cX0_hangOn 5 none 1 0 0 [vR l0, vI l1, vI l2, vI l3] 312 m none 312 out := by
  unfold X0_hangOn at h
  obtain ⟨hK, h⟩ := ite_some h
  have hlv : 0 < 1 := by decide
  refine ⟨hK, CT.of (by decide +kernel) rfl (Nat.le_of_ble_eq_true rfl) (ls := [some (vR l0), some (vI l1), some (vI l2), some (vI l3), none]) rfl fun g w C _ => ?_⟩
  refine j_aload_n C dX0_hangOn_0 rfl ?_
  refine j_getR C dX0_hangOn_1 CF0 (by decide) fl_X0_20 rfl rfl h (fun t1 h => ?_)
  refine j_iload_n C dX0_hangOn_4 rfl ?_
  refine j_iald C dX0_hangOn_5 rfl h (fun t2 h => ?_)
  refine j_istore (ls' := [some (vR _), some (vI _), some (vI _), some (vI _), some (vI _)]) C dX0_hangOn_6 (by decide) rfl ?_
  refine j_iload C dX0_hangOn_8 rfl ?_
  refine j_if_lt C 61 dX0_hangOn_10 rfl h (fun c18 h => ?_) (fun c18 h => ?_)
  · refine j_mask [true, true, true, false, false] (ls' := [some (vR _), some (vI _), some (vI _), none, none]) rfl ?_
    exact X0_hangOn_J61_ok C hlv h
  · refine j_iload C dX0_hangOn_13 rfl ?_
    refine j_aload_n C dX0_hangOn_15 rfl ?_
    refine j_getI C dX0_hangOn_16 CF0 (by decide) fl_X0_30 rfl rfl h (fun t5 h => ?_)
    refine j_icmp_ge C 61 dX0_hangOn_19 rfl h (fun c17 h => ?_) (fun c17 h => ?_)
    · refine j_mask [true, true, true, false, false] (ls' := [some (vR _), some (vI _), some (vI _), none, none]) rfl ?_
      exact X0_hangOn_J61_ok C hlv h
    · refine j_aload_n C dX0_hangOn_22 rfl ?_
      refine j_getR C dX0_hangOn_23 CF0 (by decide) fl_X0_24 rfl rfl h (fun t6 h => ?_)
      refine j_iload C dX0_hangOn_26 rfl ?_
      refine j_dup2 C dX0_hangOn_28 rfl rfl ?_
      refine j_iald C dX0_hangOn_29 rfl h (fun t7 h => ?_)
      refine j_iload_n C dX0_hangOn_30 rfl ?_
      refine j_aload_n C dX0_hangOn_31 rfl ?_
      refine j_getR C dX0_hangOn_32 CF0 (by decide) fl_X0_17 rfl rfl h (fun t8 h => ?_)
      refine j_iload_n C dX0_hangOn_35 rfl ?_
      refine j_aald C dX0_hangOn_36 rfl h (fun t9 h => ?_)
      refine j_iload_n C dX0_hangOn_37 rfl ?_
      refine j_iald C dX0_hangOn_38 rfl h (fun t10 h => ?_)
      refine j_imul C dX0_hangOn_39 ?_
      refine j_iadd C dX0_hangOn_40 ?_
      refine j_iast C dX0_hangOn_41 rfl h (fun m11 h => ?_)
      refine j_aload_n C dX0_hangOn_42 rfl ?_
      refine j_dup C dX0_hangOn_43 rfl ?_
      refine j_getI C dX0_hangOn_44 CF0 (by decide) fl_X0_27 rfl rfl h (fun t12 h => ?_)
      refine j_iload_n C dX0_hangOn_47 rfl ?_
      refine j_aload_n C dX0_hangOn_48 rfl ?_
      refine j_getR C dX0_hangOn_49 CF0 (by decide) fl_X0_17 rfl rfl h (fun t13 h => ?_)
      refine j_iload_n C dX0_hangOn_52 rfl ?_
      refine j_aald C dX0_hangOn_53 rfl h (fun t14 h => ?_)
      refine j_iload_n C dX0_hangOn_54 rfl ?_
      refine j_iald C dX0_hangOn_55 rfl h (fun t15 h => ?_)
      refine j_imul C dX0_hangOn_56 ?_
      refine j_iadd C dX0_hangOn_57 ?_
      refine j_putI C dX0_hangOn_58 CF0 (by decide) fl_X0_27 rfl rfl rfl rfl h (fun m16 h => ?_)
      refine j_mask [true, true, true, false, false] (ls' := [some (vR _), some (vI _), some (vI _), none, none]) rfl ?_
      exact X0_hangOn_J61_ok C hlv h
theorem dX0_prepare_0 : decode cX0_prepare 0 = .ok (.aload_n 0, 1) := by decide +kernel
theorem dX0_prepare_1 : decode cX0_prepare 1 = .ok (.aload_n 1, 1) := by decide +kernel
theorem dX0_prepare_2 : decode cX0_prepare 2 = .ok (.getfield 73, 3) := by decide +kernel
theorem dX0_prepare_5 : decode cX0_prepare 5 = .ok (.putfield 30, 3) := by decide +kernel
theorem dX0_prepare_8 : decode cX0_prepare 8 = .ok (.aload_n 3, 1) := by decide +kernel
theorem dX0_prepare_9 : decode cX0_prepare 9 = .ok (.getfield 74, 3) := by decide +kernel
theorem dX0_prepare_12 : decode cX0_prepare 12 = .ok (.iconst 0, 1) := by decide +kernel
theorem dX0_prepare_13 : decode cX0_prepare 13 = .ok (.aload_n 0, 1) := by decide +kernel
theorem dX0_prepare_14 : decode cX0_prepare 14 = .ok (.getfield 24, 3) := by decide +kernel
theorem dX0_prepare_17 : decode cX0_prepare 17 = .ok (.iconst 0, 1) := by decide +kernel
theorem dX0_prepare_18 : decode cX0_prepare 18 = .ok (.aload_n 0, 1) := by decide +kernel
theorem dX0_prepare_19 : decode cX0_prepare 19 = .ok (.getfield 24, 3) := by decide +kernel
theorem dX0_prepare_22 : decode cX0_prepare 22 = .ok (.arraylength, 1) := by decide +kernel
theorem dX0_prepare_23 : decode cX0_prepare 23 = .ok (.invokestatic 77, 3) := by decide +kernel
theorem dX0_prepare_26 : decode cX0_prepare 26 = .ok (.aload_n 0, 1) := by decide +kernel
theorem dX0_prepare_27 : decode cX0_prepare 27 = .ok (.aload_n 3, 1) := by decide +kernel
theorem dX0_prepare_28 : decode cX0_prepare 28 = .ok (.aload_n 1, 1) := by decide +kernel
theorem dX0_prepare_29 : decode cX0_prepare 29 = .ok (.invokevirtual 83, 3) := by decide +kernel
theorem dX0_prepare_32 : decode cX0_prepare 32 = .ok (.putfield 27, 3) := by decide +kernel
theorem dX0_prepare_35 : decode cX0_prepare 35 = .ok (.iconst 0, 1) := by decide +kernel
theorem dX0_prepare_36 : decode cX0_prepare 36 = .ok (.istore 5, 2) := by decide +kernel
theorem dX0_prepare_38 : decode cX0_prepare 38 = .ok (.iload 5, 2) := by decide +kernel
theorem dX0_prepare_40 : decode cX0_prepare 40 = .ok (.aload_n 1, 1) := by decide +kernel
theorem dX0_prepare_41 : decode cX0_prepare 41 = .ok (.invokevirtual 54, 3) := by decide +kernel
theorem dX0_prepare_44 : decode cX0_prepare 44 = .ok (.if_icmp .ge 22, 3) := by decide +kernel
theorem dX0_prepare_47 : decode cX0_prepare 47 = .ok (.aload_n 0, 1) := by decide +kernel
theorem dX0_prepare_48 : decode cX0_prepare 48 = .ok (.getfield 20, 3) := by decide +kernel
theorem dX0_prepare_51 : decode cX0_prepare 51 = .ok (.iload 5, 2) := by decide +kernel
theorem dX0_prepare_53 : decode cX0_prepare 53 = .ok (.aload_n 1, 1) := by decide +kernel
theorem dX0_prepare_54 : decode cX0_prepare 54 = .ok (.iload 5, 2) := by decide +kernel
theorem dX0_prepare_56 : decode cX0_prepare 56 = .ok (.invokevirtual 87, 3) := by decide +kernel
theorem dX0_prepare_59 : decode cX0_prepare 59 = .ok (.iastore, 1) := by decide +kernel
theorem dX0_prepare_60 : decode cX0_prepare 60 = .ok (.iinc 5 1, 3) := by decide +kernel
theorem dX0_prepare_63 : decode cX0_prepare 63 = .ok (.goto (-25), 3) := by decide +kernel
theorem dX0_prepare_66 : decode cX0_prepare 66 = .ok (.iconst 0, 1) := by decide +kernel
theorem dX0_prepare_67 : decode cX0_prepare 67 = .ok (.istore 5, 2) := by decide +kernel
theorem dX0_prepare_69 : decode cX0_prepare 69 = .ok (.iload 5, 2) := by decide +kernel
theorem dX0_prepare_71 : decode cX0_prepare 71 = .ok (.iload 4, 2) := by decide +kernel
theorem dX0_prepare_73 : decode cX0_prepare 73 = .ok (.if_icmp .ge 97, 3) := by decide +kernel
theorem dX0_prepare_76 : decode cX0_prepare 76 = .ok (.aload_n 1, 1) := by decide +kernel
theorem dX0_prepare_77 : decode cX0_prepare 77 = .ok (.getfield 90, 3) := by decide +kernel
theorem dX0_prepare_80 : decode cX0_prepare 80 = .ok (.iload 5, 2) := by decide +kernel
theorem dX0_prepare_82 : decode cX0_prepare 82 = .ok (.iaload, 1) := by decide +kernel
theorem dX0_prepare_83 : decode cX0_prepare 83 = .ok (.istore 6, 2) := by decide +kernel
theorem dX0_prepare_85 : decode cX0_prepare 85 = .ok (.iconst 0, 1) := by decide +kernel
theorem dX0_prepare_86 : decode cX0_prepare 86 = .ok (.istore 7, 2) := by decide +kernel
theorem dX0_prepare_88 : decode cX0_prepare 88 = .ok (.iload 7, 2) := by decide +kernel
theorem dX0_prepare_90 : decode cX0_prepare 90 = .ok (.aload_n 1, 1) := by decide +kernel
theorem dX0_prepare_91 : decode cX0_prepare 91 = .ok (.invokevirtual 54, 3) := by decide +kernel
theorem dX0_prepare_94 : decode cX0_prepare 94 = .ok (.if_icmp .ge 56, 3) := by decide +kernel
theorem dX0_prepare_97 : decode cX0_prepare 97 = .ok (.aload_n 1, 1) := by decide +kernel
theorem dX0_prepare_98 : decode cX0_prepare 98 = .ok (.aload_n 2, 1) := by decide +kernel
theorem dX0_prepare_99 : decode cX0_prepare 99 = .ok (.iload 5, 2) := by decide +kernel
theorem dX0_prepare_101 : decode cX0_prepare 101 = .ok (.iload 7, 2) := by decide +kernel
theorem dX0_prepare_103 : decode cX0_prepare 103 = .ok (.invokestatic 58, 3) := by decide +kernel
theorem dX0_prepare_106 : decode cX0_prepare 106 = .ok (.istore 8, 2) := by decide +kernel
theorem dX0_prepare_108 : decode cX0_prepare 108 = .ok (.aload_n 0, 1) := by decide +kernel
theorem dX0_prepare_109 : decode cX0_prepare 109 = .ok (.getfield 17, 3) := by decide +kernel
theorem dX0_prepare_112 : decode cX0_prepare 112 = .ok (.iload 5, 2) := by decide +kernel
theorem dX0_prepare_114 : decode cX0_prepare 114 = .ok (.aaload, 1) := by decide +kernel
theorem dX0_prepare_115 : decode cX0_prepare 115 = .ok (.iload 7, 2) := by decide +kernel
theorem dX0_prepare_117 : decode cX0_prepare 117 = .ok (.iload 8, 2) := by decide +kernel
theorem dX0_prepare_119 : decode cX0_prepare 119 = .ok (.ifCond .eq 23, 3) := by decide +kernel
theorem dX0_prepare_122 : decode cX0_prepare 122 = .ok (.aload_n 3, 1) := by decide +kernel
theorem dX0_prepare_123 : decode cX0_prepare 123 = .ok (.aload_n 1, 1) := by decide +kernel
theorem dX0_prepare_124 : decode cX0_prepare 124 = .ok (.aload_n 2, 1) := by decide +kernel
theorem dX0_prepare_125 : decode cX0_prepare 125 = .ok (.iload 7, 2) := by decide +kernel
theorem dX0_prepare_127 : decode cX0_prepare 127 = .ok (.aload_n 1, 1) := by decide +kernel
theorem dX0_prepare_128 : decode cX0_prepare 128 = .ok (.getfield 93, 3) := by decide +kernel
theorem dX0_prepare_131 : decode cX0_prepare 131 = .ok (.iload 6, 2) := by decide +kernel
theorem dX0_prepare_133 : decode cX0_prepare 133 = .ok (.iaload, 1) := by decide +kernel
theorem dX0_prepare_134 : decode cX0_prepare 134 = .ok (.bipush 10, 2) := by decide +kernel
theorem dX0_prepare_136 : decode cX0_prepare 136 = .ok (.invokevirtual 96, 3) := by decide +kernel
theorem dX0_prepare_139 : decode cX0_prepare 139 = .ok (.goto 4, 3) := by decide +kernel
theorem dX0_prepare_142 : decode cX0_prepare 142 = .ok (.iconst 0, 1) := by decide +kernel
theorem dX0_prepare_143 : decode cX0_prepare 143 = .ok (.iastore, 1) := by decide +kernel
theorem dX0_prepare_144 : decode cX0_prepare 144 = .ok (.iinc 7 1, 3) := by decide +kernel
theorem dX0_prepare_147 : decode cX0_prepare 147 = .ok (.goto (-59), 3) := by decide +kernel
theorem dX0_prepare_150 : decode cX0_prepare 150 = .ok (.aload_n 0, 1) := by decide +kernel
theorem dX0_prepare_151 : decode cX0_prepare 151 = .ok (.iload 5, 2) := by decide +kernel
theorem dX0_prepare_153 : decode cX0_prepare 153 = .ok (.aload_n 2, 1) := by decide +kernel
theorem dX0_prepare_154 : decode cX0_prepare 154 = .ok (.getfield 100, 3) := by decide +kernel
theorem dX0_prepare_157 : decode cX0_prepare 157 = .ok (.iload 6, 2) := by decide +kernel
theorem dX0_prepare_159 : decode cX0_prepare 159 = .ok (.iaload, 1) := by decide +kernel
theorem dX0_prepare_160 : decode cX0_prepare 160 = .ok (.iconst (-1), 1) := by decide +kernel
theorem dX0_prepare_161 : decode cX0_prepare 161 = .ok (.invokevirtual 62, 3) := by decide +kernel
theorem dX0_prepare_164 : decode cX0_prepare 164 = .ok (.iinc 5 1, 3) := by decide +kernel
theorem dX0_prepare_167 : decode cX0_prepare 167 = .ok (.goto (-98), 3) := by decide +kernel
theorem dX0_prepare_170 : decode cX0_prepare 170 = .ok (.return_, 1) := by decide +kernel
set_option maxRecDepth 100000 in
set_option maxHeartbeats 4000000 in
theorem X0_prepare_L38_bok {g : Gm} {w : Wd} (C : Cx g w RX0 cX0_prepare 9 none) {lv : Nat} (hlv : 4 < lv) {N : Nat} {k66 : Nat → Nat → Nat → Nat → Int → Mem → Option Mem} {r38 : Nat → Nat → Nat → Nat → Int → Int → Mem → Option Mem} {l0 : Nat} {l1 : Nat} {l2 : Nat} {l3 : Nat} {l4 : Int} {l5 : Int} {m : Mem} {out : Mem} (hk66 : ∀ l0 l1 l2 l3 l4 m, k66 l0 l1 l2 l3 l4 m = some out → Jd g w 9 (rmL lv 0 0) (Qm g w none out) 66 [some (vR l0), some (vR l1), some (vR l2), some (vR l3), some (vI l4), none, none, none, none] [] 312 m 0 0) (hr38 : ∀ l0 l1 l2 l3 l4 l5 m, r38 l0 l1 l2 l3 l4 l5 m = some out → Jd g w 9 (rmL lv 0 0) (Qm g w none out) 38 [some (vR l0), some (vR l1), some (vR l2), some (vR l3), some (vI l4), some (vI l5), none, none, none] [] 312 m 0 0) (h : X0_prepare_L38_b N k66 r38 l0 l1 l2 l3 l4 l5 m = some out) : Jd g w 9 (rmL lv 0 0) (Qm g w none out) 38 [some (vR l0), some (vR l1), some (vR l2), some (vR l3), some (vI l4), some (vI l5), none, none, none] [] 312 m 0 0 := by
  unfold X0_prepare_L38_b at h
  refine j_iload C dX0_prepare_38 rfl ?_
  refine j_aload_n C dX0_prepare_40 rfl ?_
  obtain ⟨p10, ep10, h⟩ := bind_some h
  have qp10 := X5_cells_ct ep10
  refine j_cVI C dX0_prepare_41 vl_X0_54 CF5 rfl qp10.1 qp10.2 (by omega) rfl rfl (Nat.le_of_ble_eq_true rfl) ?_
  refine j_icmp_ge C 66 dX0_prepare_44 rfl h (fun c14 h => ?_) (fun c14 h => ?_)
  · refine j_mask [true, true, true, true, true, false, false, false, false] (ls' := [some (vR _), some (vR _), some (vR _), some (vR _), some (vI _), none, none, none, none]) rfl ?_
    exact hk66 _ _ _ _ _ _ h
  · refine j_aload_n C dX0_prepare_47 rfl ?_
    refine j_getR C dX0_prepare_48 CF0 (by decide) fl_X0_20 rfl rfl h (fun t11 h => ?_)
    refine j_iload C dX0_prepare_51 rfl ?_
    refine j_aload_n C dX0_prepare_53 rfl ?_
    refine j_iload C dX0_prepare_54 rfl ?_
    obtain ⟨p12, ep12, h⟩ := bind_some h
    have qp12 := X5_nearest_ct ep12
    refine j_cVI C dX0_prepare_56 vl_X0_87 CF5 rfl qp12.1 qp12.2 (by omega) rfl rfl (Nat.le_of_ble_eq_true rfl) ?_
    refine j_iast C dX0_prepare_59 rfl h (fun m13 h => ?_)
    refine j_iinc (ls' := [some (vR _), some (vR _), some (vR _), some (vR _), some (vI _), some (vI _), none, none, none]) C dX0_prepare_60 rfl (by decide) rfl ?_
    refine j_goto C 38 dX0_prepare_63 rfl ?_
    exact hr38 _ _ _ _ _ _ _ h
set_option maxRecDepth 100000 in
set_option maxHeartbeats 4000000 in
theorem X0_prepare_L38_ok {g : Gm} {w : Wd} (C : Cx g w RX0 cX0_prepare 9 none) {lv : Nat} (hlv : 4 < lv) {N : Nat} {k66 : Nat → Nat → Nat → Nat → Int → Mem → Option Mem} {out : Mem} (hk66 : ∀ l0 l1 l2 l3 l4 m, k66 l0 l1 l2 l3 l4 m = some out → Jd g w 9 (rmL lv 0 0) (Qm g w none out) 66 [some (vR l0), some (vR l1), some (vR l2), some (vR l3), some (vI l4), none, none, none, none] [] 312 m 0 0) (f : Nat) : ∀ {l0 : Nat} {l1 : Nat} {l2 : Nat} {l3 : Nat} {l4 : Int} {l5 : Int} {m : Mem}, X0_prepare_L38 N k66 f l0 l1 l2 l3 l4 l5 m = some out → Jd g w 9 (rmL lv 0 0) (Qm g w none out) 38 [some (vR l0), some (vR l1), some (vR l2), some (vR l3), some (vI l4), some (vI l5), none, none, none] [] 312 m 0 0 := by
  induction f with
  | zero => intro l0 l1 l2 l3 l4 l5 m h; exact none_ne (α := Mem) h
  | succ f ih => intro l0 l1 l2 l3 l4 l5 m h; exact X0_prepare_L38_bok C hlv hk66 (fun l0 l1 l2 l3 l4 l5 m h => ih h) h
set_option maxRecDepth 100000 in
set_option maxHeartbeats 4000000 in
theorem X0_prepare_J143_ok {g : Gm} {w : Wd} (C : Cx g w RX0 cX0_prepare 9 none) {lv : Nat} (hlv : 4 < lv) {N : Nat} {r88 : Nat → Nat → Nat → Nat → Int → Int → Int → Int → Mem → Option Mem } {l0 : Nat} {l1 : Nat} {l2 : Nat} {l3 : Nat} {l4 : Int} {l5 : Int} {l6 : Int} {l7 : Int} {s0 : Nat} {s1 : Int} {s2 : Int} {m : Mem} {out : Mem} (hr88 : ∀ l0 l1 l2 l3 l4 l5 l6 l7 m, r88 l0 l1 l2 l3 l4 l5 l6 l7 m = some out → Jd g w 9 (rmL lv 0 0) (Qm g w none out) 88 [some (vR l0), some (vR l1), some (vR l2), some (vR l3), some (vI l4), some (vI l5), some (vI l6), some (vI l7), none] [] 312 m 0 0) (h : X0_prepare_J143 N r88 l0 l1 l2 l3 l4 l5 l6 l7 s0 s1 s2 m = some out) : Jd g w 9 (rmL lv 0 0) (Qm g w none out) 143 [some (vR l0), some (vR l1), some (vR l2), some (vR l3), some (vI l4), some (vI l5), some (vI l6), some (vI l7), none] [vI s2, vI s1, vR s0] 312 m 0 0 := by
  unfold X0_prepare_J143 at h
  refine j_iast C dX0_prepare_143 rfl h (fun m27 h => ?_)
  refine j_iinc (ls' := [some (vR _), some (vR _), some (vR _), some (vR _), some (vI _), some (vI _), some (vI _), some (vI _), none]) C dX0_prepare_144 rfl (by decide) rfl ?_
  refine j_goto C 88 dX0_prepare_147 rfl ?_
  exact hr88 _ _ _ _ _ _ _ _ _ h
set_option maxRecDepth 100000 in
set_option maxHeartbeats 4000000 in
theorem X0_prepare_L88_bok {g : Gm} {w : Wd} (C : Cx g w RX0 cX0_prepare 9 none) {lv : Nat} (hlv : 4 < lv) {N : Nat} {k150 : Nat → Nat → Nat → Nat → Int → Int → Int → Mem → Option Mem} {r88 : Nat → Nat → Nat → Nat → Int → Int → Int → Int → Mem → Option Mem} {l0 : Nat} {l1 : Nat} {l2 : Nat} {l3 : Nat} {l4 : Int} {l5 : Int} {l6 : Int} {l7 : Int} {m : Mem} {out : Mem} (hk150 : ∀ l0 l1 l2 l3 l4 l5 l6 m, k150 l0 l1 l2 l3 l4 l5 l6 m = some out → Jd g w 9 (rmL lv 0 0) (Qm g w none out) 150 [some (vR l0), some (vR l1), some (vR l2), some (vR l3), some (vI l4), some (vI l5), some (vI l6), none, none] [] 312 m 0 0) (hr88 : ∀ l0 l1 l2 l3 l4 l5 l6 l7 m, r88 l0 l1 l2 l3 l4 l5 l6 l7 m = some out → Jd g w 9 (rmL lv 0 0) (Qm g w none out) 88 [some (vR l0), some (vR l1), some (vR l2), some (vR l3), some (vI l4), some (vI l5), some (vI l6), some (vI l7), none] [] 312 m 0 0) (h : X0_prepare_L88_b N k150 r88 l0 l1 l2 l3 l4 l5 l6 l7 m = some out) : Jd g w 9 (rmL lv 0 0) (Qm g w none out) 88 [some (vR l0), some (vR l1), some (vR l2), some (vR l3), some (vI l4), some (vI l5), some (vI l6), some (vI l7), none] [] 312 m 0 0 := by
  unfold X0_prepare_L88_b at h
  refine j_iload C dX0_prepare_88 rfl ?_
  refine j_aload_n C dX0_prepare_90 rfl ?_
  obtain ⟨p23, ep23, h⟩ := bind_some h
  have qp23 := X5_cells_ct ep23
  refine j_cVI C dX0_prepare_91 vl_X0_54 CF5 rfl qp23.1 qp23.2 (by omega) rfl rfl (Nat.le_of_ble_eq_true rfl) ?_
  refine j_icmp_ge C 150 dX0_prepare_94 rfl h (fun c32 h => ?_) (fun c32 h => ?_)
  · refine j_mask [true, true, true, true, true, true, true, false, false] (ls' := [some (vR _), some (vR _), some (vR _), some (vR _), some (vI _), some (vI _), some (vI _), none, none]) rfl ?_
    exact hk150 _ _ _ _ _ _ _ _ h
  · refine j_aload_n C dX0_prepare_97 rfl ?_
    refine j_aload_n C dX0_prepare_98 rfl ?_
    refine j_iload C dX0_prepare_99 rfl ?_
    refine j_iload C dX0_prepare_101 rfl ?_
    obtain ⟨p24, ep24, h⟩ := bind_some h
    have qp24 := X0_canHang_ct ep24
    refine j_cSI C dX0_prepare_103 sl_X0_58 qp24 (by omega) rfl rfl (Nat.le_of_ble_eq_true rfl) ?_
    refine j_istore (ls' := [some (vR _), some (vR _), some (vR _), some (vR _), some (vI _), some (vI _), some (vI _), some (vI _), some (vI _)]) C dX0_prepare_106 (by decide) rfl ?_
    refine j_aload_n C dX0_prepare_108 rfl ?_
    refine j_getR C dX0_prepare_109 CF0 (by decide) fl_X0_17 rfl rfl h (fun t25 h => ?_)
    refine j_iload C dX0_prepare_112 rfl ?_
    refine j_aald C dX0_prepare_114 rfl h (fun t26 h => ?_)
    refine j_iload C dX0_prepare_115 rfl ?_
    refine j_iload C dX0_prepare_117 rfl ?_
    refine j_if_eq C 142 dX0_prepare_119 rfl h (fun c31 h => ?_) (fun c31 h => ?_)
    · refine j_iconst C dX0_prepare_142 rfl ?_
      refine j_mask [true, true, true, true, true, true, true, true, false] (ls' := [some (vR _), some (vR _), some (vR _), some (vR _), some (vI _), some (vI _), some (vI _), some (vI _), none]) rfl ?_
      exact X0_prepare_J143_ok C hlv hr88 h
    · refine j_aload_n C dX0_prepare_122 rfl ?_
      refine j_aload_n C dX0_prepare_123 rfl ?_
      refine j_aload_n C dX0_prepare_124 rfl ?_
      refine j_iload C dX0_prepare_125 rfl ?_
      refine j_aload_n C dX0_prepare_127 rfl ?_
      refine j_getR C dX0_prepare_128 CF5 (by decide) fl_X0_93 rfl rfl h (fun t28 h => ?_)
      refine j_iload C dX0_prepare_131 rfl ?_
      refine j_iald C dX0_prepare_133 rfl h (fun t29 h => ?_)
      refine j_bipush C dX0_prepare_134 rfl ?_
      obtain ⟨p30, ep30, h⟩ := bind_some h
      have qp30 := X3_lie_ct ep30
      refine j_cVI C dX0_prepare_136 vl_X0_96 CF3 rfl qp30.1 qp30.2 (by omega) rfl rfl (Nat.le_of_ble_eq_true rfl) ?_
      refine j_goto C 143 dX0_prepare_139 rfl ?_
      refine j_mask [true, true, true, true, true, true, true, true, false] (ls' := [some (vR _), some (vR _), some (vR _), some (vR _), some (vI _), some (vI _), some (vI _), some (vI _), none]) rfl ?_
      exact X0_prepare_J143_ok C hlv hr88 h
set_option maxRecDepth 100000 in
set_option maxHeartbeats 4000000 in
theorem X0_prepare_L88_ok {g : Gm} {w : Wd} (C : Cx g w RX0 cX0_prepare 9 none) {lv : Nat} (hlv : 4 < lv) {N : Nat} {k150 : Nat → Nat → Nat → Nat → Int → Int → Int → Mem → Option Mem} {out : Mem} (hk150 : ∀ l0 l1 l2 l3 l4 l5 l6 m, k150 l0 l1 l2 l3 l4 l5 l6 m = some out → Jd g w 9 (rmL lv 0 0) (Qm g w none out) 150 [some (vR l0), some (vR l1), some (vR l2), some (vR l3), some (vI l4), some (vI l5), some (vI l6), none, none] [] 312 m 0 0) (f : Nat) : ∀ {l0 : Nat} {l1 : Nat} {l2 : Nat} {l3 : Nat} {l4 : Int} {l5 : Int} {l6 : Int} {l7 : Int} {m : Mem}, X0_prepare_L88 N k150 f l0 l1 l2 l3 l4 l5 l6 l7 m = some out → Jd g w 9 (rmL lv 0 0) (Qm g w none out) 88 [some (vR l0), some (vR l1), some (vR l2), some (vR l3), some (vI l4), some (vI l5), some (vI l6), some (vI l7), none] [] 312 m 0 0 := by
  induction f with
  | zero => intro l0 l1 l2 l3 l4 l5 l6 l7 m h; exact none_ne (α := Mem) h
  | succ f ih => intro l0 l1 l2 l3 l4 l5 l6 l7 m h; exact X0_prepare_L88_bok C hlv hk150 (fun l0 l1 l2 l3 l4 l5 l6 l7 m h => ih h) h
set_option maxRecDepth 100000 in
set_option maxHeartbeats 4000000 in
theorem X0_prepare_L69_bok {g : Gm} {w : Wd} (C : Cx g w RX0 cX0_prepare 9 none) {lv : Nat} (hlv : 4 < lv) {N : Nat} {r69 : Nat → Nat → Nat → Nat → Int → Int → Mem → Option Mem} {l0 : Nat} {l1 : Nat} {l2 : Nat} {l3 : Nat} {l4 : Int} {l5 : Int} {m : Mem} {out : Mem} (hr69 : ∀ l0 l1 l2 l3 l4 l5 m, r69 l0 l1 l2 l3 l4 l5 m = some out → Jd g w 9 (rmL lv 0 0) (Qm g w none out) 69 [some (vR l0), some (vR l1), some (vR l2), some (vR l3), some (vI l4), some (vI l5), none, none, none] [] 312 m 0 0) (h : X0_prepare_L69_b N r69 l0 l1 l2 l3 l4 l5 m = some out) : Jd g w 9 (rmL lv 0 0) (Qm g w none out) 69 [some (vR l0), some (vR l1), some (vR l2), some (vR l3), some (vI l4), some (vI l5), none, none, none] [] 312 m 0 0 := by
  unfold X0_prepare_L69_b at h
  refine j_iload C dX0_prepare_69 rfl ?_
  refine j_iload C dX0_prepare_71 rfl ?_
  refine j_icmp_ge C 170 dX0_prepare_73 rfl h (fun c44 h => ?_) (fun c44 h => ?_)
  · have e := Option.some.inj h
    subst e
    exact j_rv C dX0_prepare_170 rfl rfl
  · refine j_aload_n C dX0_prepare_76 rfl ?_
    refine j_getR C dX0_prepare_77 CF5 (by decide) fl_X0_90 rfl rfl h (fun t21 h => ?_)
    refine j_iload C dX0_prepare_80 rfl ?_
    refine j_iald C dX0_prepare_82 rfl h (fun t22 h => ?_)
    refine j_istore (ls' := [some (vR _), some (vR _), some (vR _), some (vR _), some (vI _), some (vI _), some (vI _), none, none]) C dX0_prepare_83 (by decide) rfl ?_
    refine j_iconst C dX0_prepare_85 rfl ?_
    refine j_istore (ls' := [some (vR _), some (vR _), some (vR _), some (vR _), some (vI _), some (vI _), some (vI _), some (vI _), none]) C dX0_prepare_86 (by decide) rfl ?_
    refine X0_prepare_L88_ok C hlv (fun z33 z34 z35 z36 z37 z38 z39 m40 h => ?_) N h
    refine j_aload_n C dX0_prepare_150 rfl ?_
    refine j_iload C dX0_prepare_151 rfl ?_
    refine j_aload_n C dX0_prepare_153 rfl ?_
    refine j_getR C dX0_prepare_154 CF1 (by decide) fl_X0_100 rfl rfl h (fun t41 h => ?_)
    refine j_iload C dX0_prepare_157 rfl ?_
    refine j_iald C dX0_prepare_159 rfl h (fun t42 h => ?_)
    refine j_iconst C dX0_prepare_160 rfl ?_
    obtain ⟨p43, ep43, h⟩ := bind_some h
    have qp43 := X0_hangOn_ct ep43
    refine j_cVV C dX0_prepare_161 vl_X0_62 CF0 rfl qp43.1 qp43.2 (by omega) rfl rfl (Nat.le_of_ble_eq_true rfl) ?_
    refine j_iinc (ls' := [some (vR _), some (vR _), some (vR _), some (vR _), some (vI _), some (vI _), some (vI _), none, none]) C dX0_prepare_164 rfl (by decide) rfl ?_
    refine j_goto C 69 dX0_prepare_167 rfl ?_
    refine j_mask [true, true, true, true, true, true, false, false, false] (ls' := [some (vR _), some (vR _), some (vR _), some (vR _), some (vI _), some (vI _), none, none, none]) rfl ?_
    exact hr69 _ _ _ _ _ _ _ h
set_option maxRecDepth 100000 in
set_option maxHeartbeats 4000000 in
theorem X0_prepare_L69_ok {g : Gm} {w : Wd} (C : Cx g w RX0 cX0_prepare 9 none) {lv : Nat} (hlv : 4 < lv) {N : Nat} {out : Mem} (f : Nat) : ∀ {l0 : Nat} {l1 : Nat} {l2 : Nat} {l3 : Nat} {l4 : Int} {l5 : Int} {m : Mem}, X0_prepare_L69 N f l0 l1 l2 l3 l4 l5 m = some out → Jd g w 9 (rmL lv 0 0) (Qm g w none out) 69 [some (vR l0), some (vR l1), some (vR l2), some (vR l3), some (vI l4), some (vI l5), none, none, none] [] 312 m 0 0 := by
  induction f with
  | zero => intro l0 l1 l2 l3 l4 l5 m h; exact none_ne (α := Mem) h
  | succ f ih => intro l0 l1 l2 l3 l4 l5 m h; exact X0_prepare_L69_bok C hlv (fun l0 l1 l2 l3 l4 l5 m h => ih h) h
set_option maxRecDepth 100000 in
set_option maxHeartbeats 4000000 in
theorem X0_prepare_ct {N : Nat} {l0 : Nat} {l1 : Nat} {l2 : Nat} {l3 : Nat} {l4 : Int} {m : Mem} {out : Mem} (h : X0_prepare N l0 l1 l2 l3 l4 m = some out) : shK l0 = 0 + 10 ∧ CT yX0_prepare cX0_prepare 9 none 5 0 0 [vR l0, vR l1, vR l2, vR l3, vI l4] 312 m none 312 out := by
  unfold X0_prepare at h
  obtain ⟨hK, h⟩ := ite_some h
  have hlv : 4 < 5 := by decide
  refine ⟨hK, CT.of (by decide +kernel) rfl (Nat.le_of_ble_eq_true rfl) (ls := [some (vR l0), some (vR l1), some (vR l2), some (vR l3), some (vI l4), none, none, none, none]) rfl fun g w C _ => ?_⟩
  refine j_aload_n C dX0_prepare_0 rfl ?_
  refine j_aload_n C dX0_prepare_1 rfl ?_
  refine j_getI C dX0_prepare_2 CF5 (by decide) fl_X0_73 rfl rfl h (fun t1 h => ?_)
  refine j_putI C dX0_prepare_5 CF0 (by decide) fl_X0_30 rfl rfl rfl rfl h (fun m2 h => ?_)
  refine j_aload_n C dX0_prepare_8 rfl ?_
  refine j_getR C dX0_prepare_9 CF3 (by decide) fl_X0_74 rfl rfl h (fun t3 h => ?_)
  refine j_iconst C dX0_prepare_12 rfl ?_
  refine j_aload_n C dX0_prepare_13 rfl ?_
  refine j_getR C dX0_prepare_14 CF0 (by decide) fl_X0_24 rfl rfl h (fun t4 h => ?_)
  refine j_iconst C dX0_prepare_17 rfl ?_
  refine j_aload_n C dX0_prepare_18 rfl ?_
  refine j_getR C dX0_prepare_19 CF0 (by decide) fl_X0_24 rfl rfl h (fun t5 h => ?_)
  refine j_alen C dX0_prepare_22 rfl h (fun t6 h => ?_)
  refine j_acopy C dX0_prepare_23 al_X0_77 rfl (by omega) (Nat.le_of_ble_eq_true rfl) rfl h (fun m7 h => ?_)
  refine j_aload_n C dX0_prepare_26 rfl ?_
  refine j_aload_n C dX0_prepare_27 rfl ?_
  refine j_aload_n C dX0_prepare_28 rfl ?_
  obtain ⟨p8, ep8, h⟩ := bind_some h
  have qp8 := X3_allByDawn_ct ep8
  refine j_cVI C dX0_prepare_29 vl_X0_83 CF3 rfl qp8.1 qp8.2 (by omega) rfl rfl (Nat.le_of_ble_eq_true rfl) ?_
  refine j_putI C dX0_prepare_32 CF0 (by decide) fl_X0_27 rfl rfl rfl rfl h (fun m9 h => ?_)
  refine j_iconst C dX0_prepare_35 rfl ?_
  refine j_istore (ls' := [some (vR _), some (vR _), some (vR _), some (vR _), some (vI _), some (vI _), none, none, none]) C dX0_prepare_36 (by decide) rfl ?_
  refine X0_prepare_L38_ok C hlv (fun z15 z16 z17 z18 z19 m20 h => ?_) N h
  refine j_iconst C dX0_prepare_66 rfl ?_
  refine j_istore (ls' := [some (vR _), some (vR _), some (vR _), some (vR _), some (vI _), some (vI _), none, none, none]) C dX0_prepare_67 (by decide) rfl ?_
  exact X0_prepare_L69_ok C hlv N h
theorem dX0_spread_0 : decode cX0_spread 0 = .ok (.aload_n 0, 1) := by decide +kernel
theorem dX0_spread_1 : decode cX0_spread 1 = .ok (.getfield 24, 3) := by decide +kernel
theorem dX0_spread_4 : decode cX0_spread 4 = .ok (.iconst 0, 1) := by decide +kernel
theorem dX0_spread_5 : decode cX0_spread 5 = .ok (.iaload, 1) := by decide +kernel
theorem dX0_spread_6 : decode cX0_spread 6 = .ok (.istore_n 1, 1) := by decide +kernel
theorem dX0_spread_7 : decode cX0_spread 7 = .ok (.aload_n 0, 1) := by decide +kernel
theorem dX0_spread_8 : decode cX0_spread 8 = .ok (.getfield 24, 3) := by decide +kernel
theorem dX0_spread_11 : decode cX0_spread 11 = .ok (.iconst 0, 1) := by decide +kernel
theorem dX0_spread_12 : decode cX0_spread 12 = .ok (.iaload, 1) := by decide +kernel
theorem dX0_spread_13 : decode cX0_spread 13 = .ok (.istore_n 2, 1) := by decide +kernel
theorem dX0_spread_14 : decode cX0_spread 14 = .ok (.iconst 1, 1) := by decide +kernel
theorem dX0_spread_15 : decode cX0_spread 15 = .ok (.istore_n 3, 1) := by decide +kernel
theorem dX0_spread_16 : decode cX0_spread 16 = .ok (.iload_n 3, 1) := by decide +kernel
theorem dX0_spread_17 : decode cX0_spread 17 = .ok (.aload_n 0, 1) := by decide +kernel
theorem dX0_spread_18 : decode cX0_spread 18 = .ok (.getfield 30, 3) := by decide +kernel
theorem dX0_spread_21 : decode cX0_spread 21 = .ok (.if_icmp .ge 31, 3) := by decide +kernel
theorem dX0_spread_24 : decode cX0_spread 24 = .ok (.iload_n 1, 1) := by decide +kernel
theorem dX0_spread_25 : decode cX0_spread 25 = .ok (.aload_n 0, 1) := by decide +kernel
theorem dX0_spread_26 : decode cX0_spread 26 = .ok (.getfield 24, 3) := by decide +kernel
theorem dX0_spread_29 : decode cX0_spread 29 = .ok (.iload_n 3, 1) := by decide +kernel
theorem dX0_spread_30 : decode cX0_spread 30 = .ok (.iaload, 1) := by decide +kernel
theorem dX0_spread_31 : decode cX0_spread 31 = .ok (.invokestatic 112, 3) := by decide +kernel
theorem dX0_spread_34 : decode cX0_spread 34 = .ok (.istore_n 1, 1) := by decide +kernel
theorem dX0_spread_35 : decode cX0_spread 35 = .ok (.iload_n 2, 1) := by decide +kernel
theorem dX0_spread_36 : decode cX0_spread 36 = .ok (.aload_n 0, 1) := by decide +kernel
theorem dX0_spread_37 : decode cX0_spread 37 = .ok (.getfield 24, 3) := by decide +kernel
theorem dX0_spread_40 : decode cX0_spread 40 = .ok (.iload_n 3, 1) := by decide +kernel
theorem dX0_spread_41 : decode cX0_spread 41 = .ok (.iaload, 1) := by decide +kernel
theorem dX0_spread_42 : decode cX0_spread 42 = .ok (.invokestatic 118, 3) := by decide +kernel
theorem dX0_spread_45 : decode cX0_spread 45 = .ok (.istore_n 2, 1) := by decide +kernel
theorem dX0_spread_46 : decode cX0_spread 46 = .ok (.iinc 3 1, 3) := by decide +kernel
theorem dX0_spread_49 : decode cX0_spread 49 = .ok (.goto (-33), 3) := by decide +kernel
theorem dX0_spread_52 : decode cX0_spread 52 = .ok (.iload_n 1, 1) := by decide +kernel
theorem dX0_spread_53 : decode cX0_spread 53 = .ok (.iload_n 2, 1) := by decide +kernel
theorem dX0_spread_54 : decode cX0_spread 54 = .ok (.isub, 1) := by decide +kernel
theorem dX0_spread_55 : decode cX0_spread 55 = .ok (.ireturn, 1) := by decide +kernel
set_option maxRecDepth 100000 in
set_option maxHeartbeats 4000000 in
theorem X0_spread_L16_bok {g : Gm} {w : Wd} (C : Cx g w RX0 cX0_spread 4 (some .int)) {lv : Nat} (hlv : 0 < lv) {N : Nat} {k52 : Int → Int → Option Int} {r16 : Nat → Int → Int → Int → Option Int} {l0 : Nat} {l1 : Int} {l2 : Int} {l3 : Int} {m : Mem} {out : Int} (hk52 : ∀ l1 l2, k52 l1 l2 = some out → Jd g w 4 (rmL lv 0 0) (Qm g w (some (vI out)) m) 52 [none, some (vI l1), some (vI l2), none] [] 312 m 0 0) (hr16 : ∀ l0 l1 l2 l3, r16 l0 l1 l2 l3 = some out → Jd g w 4 (rmL lv 0 0) (Qm g w (some (vI out)) m) 16 [some (vR l0), some (vI l1), some (vI l2), some (vI l3)] [] 312 m 0 0) (h : X0_spread_L16_b N k52 m r16 l0 l1 l2 l3 = some out) : Jd g w 4 (rmL lv 0 0) (Qm g w (some (vI out)) m) 16 [some (vR l0), some (vI l1), some (vI l2), some (vI l3)] [] 312 m 0 0 := by
  unfold X0_spread_L16_b at h
  refine j_iload_n C dX0_spread_16 rfl ?_
  refine j_aload_n C dX0_spread_17 rfl ?_
  refine j_getI C dX0_spread_18 CF0 (by decide) fl_X0_30 rfl rfl h (fun t5 h => ?_)
  refine j_icmp_ge C 52 dX0_spread_21 rfl h (fun c10 h => ?_) (fun c10 h => ?_)
  · refine j_mask [false, true, true, false] (ls' := [none, some (vI _), some (vI _), none]) rfl ?_
    exact hk52 _ _ h
  · refine j_iload_n C dX0_spread_24 rfl ?_
    refine j_aload_n C dX0_spread_25 rfl ?_
    refine j_getR C dX0_spread_26 CF0 (by decide) fl_X0_24 rfl rfl h (fun t6 h => ?_)
    refine j_iload_n C dX0_spread_29 rfl ?_
    refine j_iald C dX0_spread_30 rfl h (fun t7 h => ?_)
    refine j_mmax C dX0_spread_31 ml_X0_112 rfl (by omega) (Nat.le_refl 0) (Nat.le_refl 0) (Nat.le_of_ble_eq_true rfl) ?_
    refine j_istore_n (ls' := [some (vR _), some (vI _), some (vI _), some (vI _)]) C dX0_spread_34 (by decide) rfl ?_
    refine j_iload_n C dX0_spread_35 rfl ?_
    refine j_aload_n C dX0_spread_36 rfl ?_
    refine j_getR C dX0_spread_37 CF0 (by decide) fl_X0_24 rfl rfl h (fun t8 h => ?_)
    refine j_iload_n C dX0_spread_40 rfl ?_
    refine j_iald C dX0_spread_41 rfl h (fun t9 h => ?_)
    refine j_mmin C dX0_spread_42 ml_X0_118 rfl (by omega) (Nat.le_refl 0) (Nat.le_refl 0) (Nat.le_of_ble_eq_true rfl) ?_
    refine j_istore_n (ls' := [some (vR _), some (vI _), some (vI _), some (vI _)]) C dX0_spread_45 (by decide) rfl ?_
    refine j_iinc (ls' := [some (vR _), some (vI _), some (vI _), some (vI _)]) C dX0_spread_46 rfl (by decide) rfl ?_
    refine j_goto C 16 dX0_spread_49 rfl ?_
    exact hr16 _ _ _ _ h
set_option maxRecDepth 100000 in
set_option maxHeartbeats 4000000 in
theorem X0_spread_L16_ok {g : Gm} {w : Wd} (C : Cx g w RX0 cX0_spread 4 (some .int)) {lv : Nat} (hlv : 0 < lv) {N : Nat} {k52 : Int → Int → Option Int} {m : Mem} {out : Int} (hk52 : ∀ l1 l2, k52 l1 l2 = some out → Jd g w 4 (rmL lv 0 0) (Qm g w (some (vI out)) m) 52 [none, some (vI l1), some (vI l2), none] [] 312 m 0 0) (f : Nat) : ∀ {l0 : Nat} {l1 : Int} {l2 : Int} {l3 : Int}, X0_spread_L16 N k52 m f l0 l1 l2 l3 = some out → Jd g w 4 (rmL lv 0 0) (Qm g w (some (vI out)) m) 16 [some (vR l0), some (vI l1), some (vI l2), some (vI l3)] [] 312 m 0 0 := by
  induction f with
  | zero => intro l0 l1 l2 l3 h; exact none_ne (α := Int) h
  | succ f ih => intro l0 l1 l2 l3 h; exact X0_spread_L16_bok C hlv hk52 (fun l0 l1 l2 l3 h => ih h) h
set_option maxRecDepth 100000 in
set_option maxHeartbeats 4000000 in
theorem X0_spread_ct {N : Nat} {l0 : Nat} {m : Mem} {out : Int} (h : X0_spread N l0 m = some out) : shK l0 = 0 + 10 ∧ CT yX0_spread cX0_spread 4 (some .int) 1 0 0 [vR l0] 312 m (some (vI out)) 312 m := by
  unfold X0_spread at h
  obtain ⟨hK, h⟩ := ite_some h
  have hlv : 0 < 1 := by decide
  refine ⟨hK, CT.of (by decide +kernel) rfl (Nat.le_of_ble_eq_true rfl) (ls := [some (vR l0), none, none, none]) rfl fun g w C _ => ?_⟩
  refine j_aload_n C dX0_spread_0 rfl ?_
  refine j_getR C dX0_spread_1 CF0 (by decide) fl_X0_24 rfl rfl h (fun t1 h => ?_)
  refine j_iconst C dX0_spread_4 rfl ?_
  refine j_iald C dX0_spread_5 rfl h (fun t2 h => ?_)
  refine j_istore_n (ls' := [some (vR _), some (vI _), none, none]) C dX0_spread_6 (by decide) rfl ?_
  refine j_aload_n C dX0_spread_7 rfl ?_
  refine j_getR C dX0_spread_8 CF0 (by decide) fl_X0_24 rfl rfl h (fun t3 h => ?_)
  refine j_iconst C dX0_spread_11 rfl ?_
  refine j_iald C dX0_spread_12 rfl h (fun t4 h => ?_)
  refine j_istore_n (ls' := [some (vR _), some (vI _), some (vI _), none]) C dX0_spread_13 (by decide) rfl ?_
  refine j_iconst C dX0_spread_14 rfl ?_
  refine j_istore_n (ls' := [some (vR _), some (vI _), some (vI _), some (vI _)]) C dX0_spread_15 (by decide) rfl ?_
  refine X0_spread_L16_ok C hlv (fun z11 z12 h => ?_) N h
  refine j_iload_n C dX0_spread_52 rfl ?_
  refine j_iload_n C dX0_spread_53 rfl ?_
  refine j_isub C dX0_spread_54 ?_
  exact j_ri C dX0_spread_55 rfl (Option.some.inj h).symm rfl
theorem dX0_judge_0 : decode cX0_judge 0 = .ok (.aload_n 0, 1) := by decide +kernel
theorem dX0_judge_1 : decode cX0_judge 1 = .ok (.invokevirtual 109, 3) := by decide +kernel
theorem dX0_judge_4 : decode cX0_judge 4 = .ok (.istore_n 1, 1) := by decide +kernel
theorem dX0_judge_5 : decode cX0_judge 5 = .ok (.aload_n 0, 1) := by decide +kernel
theorem dX0_judge_6 : decode cX0_judge 6 = .ok (.getfield 39, 3) := by decide +kernel
theorem dX0_judge_9 : decode cX0_judge 9 = .ok (.iconst (-1), 1) := by decide +kernel
theorem dX0_judge_10 : decode cX0_judge 10 = .ok (.if_icmp .eq 30, 3) := by decide +kernel
theorem dX0_judge_13 : decode cX0_judge 13 = .ok (.iload_n 1, 1) := by decide +kernel
theorem dX0_judge_14 : decode cX0_judge 14 = .ok (.aload_n 0, 1) := by decide +kernel
theorem dX0_judge_15 : decode cX0_judge 15 = .ok (.getfield 39, 3) := by decide +kernel
theorem dX0_judge_18 : decode cX0_judge 18 = .ok (.if_icmp .lt 22, 3) := by decide +kernel
theorem dX0_judge_21 : decode cX0_judge 21 = .ok (.iload_n 1, 1) := by decide +kernel
theorem dX0_judge_22 : decode cX0_judge 22 = .ok (.aload_n 0, 1) := by decide +kernel
theorem dX0_judge_23 : decode cX0_judge 23 = .ok (.getfield 39, 3) := by decide +kernel
theorem dX0_judge_26 : decode cX0_judge 26 = .ok (.if_icmp .ne 18, 3) := by decide +kernel
theorem dX0_judge_29 : decode cX0_judge 29 = .ok (.aload_n 0, 1) := by decide +kernel
theorem dX0_judge_30 : decode cX0_judge 30 = .ok (.getfield 27, 3) := by decide +kernel
theorem dX0_judge_33 : decode cX0_judge 33 = .ok (.aload_n 0, 1) := by decide +kernel
theorem dX0_judge_34 : decode cX0_judge 34 = .ok (.getfield 42, 3) := by decide +kernel
theorem dX0_judge_37 : decode cX0_judge 37 = .ok (.if_icmp .le 7, 3) := by decide +kernel
theorem dX0_judge_40 : decode cX0_judge 40 = .ok (.iconst 1, 1) := by decide +kernel
theorem dX0_judge_41 : decode cX0_judge 41 = .ok (.goto 4, 3) := by decide +kernel
theorem dX0_judge_44 : decode cX0_judge 44 = .ok (.iconst 0, 1) := by decide +kernel
theorem dX0_judge_45 : decode cX0_judge 45 = .ok (.istore_n 2, 1) := by decide +kernel
theorem dX0_judge_46 : decode cX0_judge 46 = .ok (.iload_n 2, 1) := by decide +kernel
theorem dX0_judge_47 : decode cX0_judge 47 = .ok (.ifCond .eq 30, 3) := by decide +kernel
theorem dX0_judge_50 : decode cX0_judge 50 = .ok (.aload_n 0, 1) := by decide +kernel
theorem dX0_judge_51 : decode cX0_judge 51 = .ok (.iload_n 1, 1) := by decide +kernel
theorem dX0_judge_52 : decode cX0_judge 52 = .ok (.putfield 39, 3) := by decide +kernel
theorem dX0_judge_55 : decode cX0_judge 55 = .ok (.aload_n 0, 1) := by decide +kernel
theorem dX0_judge_56 : decode cX0_judge 56 = .ok (.aload_n 0, 1) := by decide +kernel
theorem dX0_judge_57 : decode cX0_judge 57 = .ok (.getfield 27, 3) := by decide +kernel
theorem dX0_judge_60 : decode cX0_judge 60 = .ok (.putfield 42, 3) := by decide +kernel
theorem dX0_judge_63 : decode cX0_judge 63 = .ok (.aload_n 0, 1) := by decide +kernel
theorem dX0_judge_64 : decode cX0_judge 64 = .ok (.getfield 33, 3) := by decide +kernel
theorem dX0_judge_67 : decode cX0_judge 67 = .ok (.iconst 0, 1) := by decide +kernel
theorem dX0_judge_68 : decode cX0_judge 68 = .ok (.aload_n 0, 1) := by decide +kernel
theorem dX0_judge_69 : decode cX0_judge 69 = .ok (.getfield 36, 3) := by decide +kernel
theorem dX0_judge_72 : decode cX0_judge 72 = .ok (.iconst 0, 1) := by decide +kernel
theorem dX0_judge_73 : decode cX0_judge 73 = .ok (.iconst 2, 1) := by decide +kernel
theorem dX0_judge_74 : decode cX0_judge 74 = .ok (.invokestatic 77, 3) := by decide +kernel
theorem dX0_judge_77 : decode cX0_judge 77 = .ok (.return_, 1) := by decide +kernel
set_option maxRecDepth 100000 in
set_option maxHeartbeats 4000000 in
theorem X0_judge_J45_ok {g : Gm} {w : Wd} (C : Cx g w RX0 cX0_judge 3 none) {lv : Nat} (hlv : 1 < lv) {N : Nat} {l0 : Nat} {l1 : Int} {s0 : Int} {m : Mem} {out : Mem} (h : X0_judge_J45 N l0 l1 s0 m = some out) : Jd g w 3 (rmL lv 0 0) (Qm g w none out) 45 [some (vR l0), some (vI l1), none] [vI s0] 312 m 0 0 := by
  unfold X0_judge_J45 at h
  refine j_istore_n (ls' := [some (vR _), some (vI _), some (vI _)]) C dX0_judge_45 (by decide) rfl ?_
  refine j_iload_n C dX0_judge_46 rfl ?_
  refine j_if_eq C 77 dX0_judge_47 rfl h (fun c9 h => ?_) (fun c9 h => ?_)
  · have e := Option.some.inj h
    subst e
    exact j_rv C dX0_judge_77 rfl rfl
  · refine j_aload_n C dX0_judge_50 rfl ?_
    refine j_iload_n C dX0_judge_51 rfl ?_
    refine j_putI C dX0_judge_52 CF0 (by decide) fl_X0_39 rfl rfl rfl rfl h (fun m3 h => ?_)
    refine j_aload_n C dX0_judge_55 rfl ?_
    refine j_aload_n C dX0_judge_56 rfl ?_
    refine j_getI C dX0_judge_57 CF0 (by decide) fl_X0_27 rfl rfl h (fun t4 h => ?_)
    refine j_putI C dX0_judge_60 CF0 (by decide) fl_X0_42 rfl rfl rfl rfl h (fun m5 h => ?_)
    refine j_aload_n C dX0_judge_63 rfl ?_
    refine j_getR C dX0_judge_64 CF0 (by decide) fl_X0_33 rfl rfl h (fun t6 h => ?_)
    refine j_iconst C dX0_judge_67 rfl ?_
    refine j_aload_n C dX0_judge_68 rfl ?_
    refine j_getR C dX0_judge_69 CF0 (by decide) fl_X0_36 rfl rfl h (fun t7 h => ?_)
    refine j_iconst C dX0_judge_72 rfl ?_
    refine j_iconst C dX0_judge_73 rfl ?_
    refine j_acopy C dX0_judge_74 al_X0_77 rfl (by omega) (Nat.le_of_ble_eq_true rfl) rfl h (fun m8 h => ?_)
    have e := Option.some.inj h
    subst e
    exact j_rv C dX0_judge_77 rfl rfl
set_option maxRecDepth 100000 in
set_option maxHeartbeats 4000000 in
theorem X0_judge_J40_ok {g : Gm} {w : Wd} (C : Cx g w RX0 cX0_judge 3 none) {lv : Nat} (hlv : 1 < lv) {N : Nat} {l0 : Nat} {l1 : Int} {m : Mem} {out : Mem} (h : X0_judge_J40 N l0 l1 m = some out) : Jd g w 3 (rmL lv 0 0) (Qm g w none out) 40 [some (vR l0), some (vI l1), none] [] 312 m 0 0 := by
  unfold X0_judge_J40 at h
  refine j_iconst C dX0_judge_40 rfl ?_
  refine j_goto C 45 dX0_judge_41 rfl ?_
  exact X0_judge_J45_ok C hlv h
set_option maxRecDepth 100000 in
set_option maxHeartbeats 4000000 in
theorem X0_judge_J44_ok {g : Gm} {w : Wd} (C : Cx g w RX0 cX0_judge 3 none) {lv : Nat} (hlv : 1 < lv) {N : Nat} {l0 : Nat} {l1 : Int} {m : Mem} {out : Mem} (h : X0_judge_J44 N l0 l1 m = some out) : Jd g w 3 (rmL lv 0 0) (Qm g w none out) 44 [some (vR l0), some (vI l1), none] [] 312 m 0 0 := by
  unfold X0_judge_J44 at h
  refine j_iconst C dX0_judge_44 rfl ?_
  exact X0_judge_J45_ok C hlv h
set_option maxRecDepth 100000 in
set_option maxHeartbeats 4000000 in
theorem X0_judge_ct {N : Nat} {l0 : Nat} {m : Mem} {out : Mem} (h : X0_judge N l0 m = some out) : shK l0 = 0 + 10 ∧ CT yX0_judge cX0_judge 3 none 2 0 0 [vR l0] 312 m none 312 out := by
  unfold X0_judge at h
  obtain ⟨hK, h⟩ := ite_some h
  have hlv : 1 < 2 := by decide
  refine ⟨hK, CT.of (by decide +kernel) rfl (Nat.le_of_ble_eq_true rfl) (ls := [some (vR l0), none, none]) rfl fun g w C _ => ?_⟩
  refine j_aload_n C dX0_judge_0 rfl ?_
  obtain ⟨p1, ep1, h⟩ := bind_some h
  have qp1 := X0_spread_ct ep1
  refine j_cVI C dX0_judge_1 vl_X0_109 CF0 rfl qp1.1 qp1.2 (by omega) rfl rfl (Nat.le_of_ble_eq_true rfl) ?_
  refine j_istore_n (ls' := [some (vR _), some (vI _), none]) C dX0_judge_4 (by decide) rfl ?_
  refine j_aload_n C dX0_judge_5 rfl ?_
  refine j_getI C dX0_judge_6 CF0 (by decide) fl_X0_39 rfl rfl h (fun t2 h => ?_)
  refine j_iconst C dX0_judge_9 rfl ?_
  refine j_icmp_eq C 40 dX0_judge_10 rfl h (fun c17 h => ?_) (fun c17 h => ?_)
  · exact X0_judge_J40_ok C hlv h
  · refine j_iload_n C dX0_judge_13 rfl ?_
    refine j_aload_n C dX0_judge_14 rfl ?_
    refine j_getI C dX0_judge_15 CF0 (by decide) fl_X0_39 rfl rfl h (fun t10 h => ?_)
    refine j_icmp_lt C 40 dX0_judge_18 rfl h (fun c16 h => ?_) (fun c16 h => ?_)
    · exact X0_judge_J40_ok C hlv h
    · refine j_iload_n C dX0_judge_21 rfl ?_
      refine j_aload_n C dX0_judge_22 rfl ?_
      refine j_getI C dX0_judge_23 CF0 (by decide) fl_X0_39 rfl rfl h (fun t11 h => ?_)
      refine j_icmp_ne C 44 dX0_judge_26 rfl h (fun c15 h => ?_) (fun c15 h => ?_)
      · exact X0_judge_J44_ok C hlv h
      · refine j_aload_n C dX0_judge_29 rfl ?_
        refine j_getI C dX0_judge_30 CF0 (by decide) fl_X0_27 rfl rfl h (fun t12 h => ?_)
        refine j_aload_n C dX0_judge_33 rfl ?_
        refine j_getI C dX0_judge_34 CF0 (by decide) fl_X0_42 rfl rfl h (fun t13 h => ?_)
        refine j_icmp_le C 44 dX0_judge_37 rfl h (fun c14 h => ?_) (fun c14 h => ?_)
        · exact X0_judge_J44_ok C hlv h
        · exact X0_judge_J40_ok C hlv h
theorem dX0_tryRest_0 : decode cX0_tryRest 0 = .ok (.iload_n 3, 1) := by decide +kernel
theorem dX0_tryRest_1 : decode cX0_tryRest 1 = .ok (.iconst 1, 1) := by decide +kernel
theorem dX0_tryRest_2 : decode cX0_tryRest 2 = .ok (.if_icmp .ne 8, 3) := by decide +kernel
theorem dX0_tryRest_5 : decode cX0_tryRest 5 = .ok (.aload_n 0, 1) := by decide +kernel
theorem dX0_tryRest_6 : decode cX0_tryRest 6 = .ok (.invokevirtual 70, 3) := by decide +kernel
theorem dX0_tryRest_9 : decode cX0_tryRest 9 = .ok (.return_, 1) := by decide +kernel
theorem dX0_tryRest_10 : decode cX0_tryRest 10 = .ok (.iconst 0, 1) := by decide +kernel
theorem dX0_tryRest_11 : decode cX0_tryRest 11 = .ok (.istore 4, 2) := by decide +kernel
theorem dX0_tryRest_13 : decode cX0_tryRest 13 = .ok (.iload 4, 2) := by decide +kernel
theorem dX0_tryRest_15 : decode cX0_tryRest 15 = .ok (.aload_n 1, 1) := by decide +kernel
theorem dX0_tryRest_16 : decode cX0_tryRest 16 = .ok (.invokevirtual 54, 3) := by decide +kernel
theorem dX0_tryRest_19 : decode cX0_tryRest 19 = .ok (.if_icmp .ge 51, 3) := by decide +kernel
theorem dX0_tryRest_22 : decode cX0_tryRest 22 = .ok (.iload 4, 2) := by decide +kernel
theorem dX0_tryRest_24 : decode cX0_tryRest 24 = .ok (.aload_n 0, 1) := by decide +kernel
theorem dX0_tryRest_25 : decode cX0_tryRest 25 = .ok (.getfield 33, 3) := by decide +kernel
theorem dX0_tryRest_28 : decode cX0_tryRest 28 = .ok (.iconst 0, 1) := by decide +kernel
theorem dX0_tryRest_29 : decode cX0_tryRest 29 = .ok (.iaload, 1) := by decide +kernel
theorem dX0_tryRest_30 : decode cX0_tryRest 30 = .ok (.if_icmp .eq 34, 3) := by decide +kernel
theorem dX0_tryRest_33 : decode cX0_tryRest 33 = .ok (.aload_n 1, 1) := by decide +kernel
theorem dX0_tryRest_34 : decode cX0_tryRest 34 = .ok (.aload_n 2, 1) := by decide +kernel
theorem dX0_tryRest_35 : decode cX0_tryRest 35 = .ok (.iconst 1, 1) := by decide +kernel
theorem dX0_tryRest_36 : decode cX0_tryRest 36 = .ok (.iload 4, 2) := by decide +kernel
theorem dX0_tryRest_38 : decode cX0_tryRest 38 = .ok (.invokestatic 58, 3) := by decide +kernel
theorem dX0_tryRest_41 : decode cX0_tryRest 41 = .ok (.ifCond .eq 23, 3) := by decide +kernel
theorem dX0_tryRest_44 : decode cX0_tryRest 44 = .ok (.aload_n 0, 1) := by decide +kernel
theorem dX0_tryRest_45 : decode cX0_tryRest 45 = .ok (.iconst 1, 1) := by decide +kernel
theorem dX0_tryRest_46 : decode cX0_tryRest 46 = .ok (.iload 4, 2) := by decide +kernel
theorem dX0_tryRest_48 : decode cX0_tryRest 48 = .ok (.iconst 1, 1) := by decide +kernel
theorem dX0_tryRest_49 : decode cX0_tryRest 49 = .ok (.invokevirtual 62, 3) := by decide +kernel
theorem dX0_tryRest_52 : decode cX0_tryRest 52 = .ok (.aload_n 0, 1) := by decide +kernel
theorem dX0_tryRest_53 : decode cX0_tryRest 53 = .ok (.invokevirtual 70, 3) := by decide +kernel
theorem dX0_tryRest_56 : decode cX0_tryRest 56 = .ok (.aload_n 0, 1) := by decide +kernel
theorem dX0_tryRest_57 : decode cX0_tryRest 57 = .ok (.iconst 1, 1) := by decide +kernel
theorem dX0_tryRest_58 : decode cX0_tryRest 58 = .ok (.iload 4, 2) := by decide +kernel
theorem dX0_tryRest_60 : decode cX0_tryRest 60 = .ok (.iconst (-1), 1) := by decide +kernel
theorem dX0_tryRest_61 : decode cX0_tryRest 61 = .ok (.invokevirtual 62, 3) := by decide +kernel
theorem dX0_tryRest_64 : decode cX0_tryRest 64 = .ok (.iinc 4 1, 3) := by decide +kernel
theorem dX0_tryRest_67 : decode cX0_tryRest 67 = .ok (.goto (-54), 3) := by decide +kernel
theorem dX0_tryRest_70 : decode cX0_tryRest 70 = .ok (.return_, 1) := by decide +kernel
set_option maxRecDepth 100000 in
set_option maxHeartbeats 4000000 in
theorem X0_tryRest_J64_ok {g : Gm} {w : Wd} (C : Cx g w RX0 cX0_tryRest 5 none) {lv : Nat} (hlv : 4 < lv) {N : Nat} {r13 : Nat → Nat → Nat → Int → Mem → Option Mem } {l0 : Nat} {l1 : Nat} {l2 : Nat} {l4 : Int} {m : Mem} {out : Mem} (hr13 : ∀ l0 l1 l2 l4 m, r13 l0 l1 l2 l4 m = some out → Jd g w 5 (rmL lv 0 0) (Qm g w none out) 13 [some (vR l0), some (vR l1), some (vR l2), none, some (vI l4)] [] 312 m 0 0) (h : X0_tryRest_J64 N r13 l0 l1 l2 l4 m = some out) : Jd g w 5 (rmL lv 0 0) (Qm g w none out) 64 [some (vR l0), some (vR l1), some (vR l2), none, some (vI l4)] [] 312 m 0 0 := by
  unfold X0_tryRest_J64 at h
  refine j_iinc (ls' := [some (vR _), some (vR _), some (vR _), none, some (vI _)]) C dX0_tryRest_64 rfl (by decide) rfl ?_
  refine j_goto C 13 dX0_tryRest_67 rfl ?_
  exact hr13 _ _ _ _ _ h
set_option maxRecDepth 100000 in
set_option maxHeartbeats 4000000 in
theorem X0_tryRest_L13_bok {g : Gm} {w : Wd} (C : Cx g w RX0 cX0_tryRest 5 none) {lv : Nat} (hlv : 4 < lv) {N : Nat} {r13 : Nat → Nat → Nat → Int → Mem → Option Mem} {l0 : Nat} {l1 : Nat} {l2 : Nat} {l4 : Int} {m : Mem} {out : Mem} (hr13 : ∀ l0 l1 l2 l4 m, r13 l0 l1 l2 l4 m = some out → Jd g w 5 (rmL lv 0 0) (Qm g w none out) 13 [some (vR l0), some (vR l1), some (vR l2), none, some (vI l4)] [] 312 m 0 0) (h : X0_tryRest_L13_b N r13 l0 l1 l2 l4 m = some out) : Jd g w 5 (rmL lv 0 0) (Qm g w none out) 13 [some (vR l0), some (vR l1), some (vR l2), none, some (vI l4)] [] 312 m 0 0 := by
  unfold X0_tryRest_L13_b at h
  refine j_iload C dX0_tryRest_13 rfl ?_
  refine j_aload_n C dX0_tryRest_15 rfl ?_
  obtain ⟨p1, ep1, h⟩ := bind_some h
  have qp1 := X5_cells_ct ep1
  refine j_cVI C dX0_tryRest_16 vl_X0_54 CF5 rfl qp1.1 qp1.2 (by omega) rfl rfl (Nat.le_of_ble_eq_true rfl) ?_
  refine j_icmp_ge C 70 dX0_tryRest_19 rfl h (fun c10 h => ?_) (fun c10 h => ?_)
  · have e := Option.some.inj h
    subst e
    exact j_rv C dX0_tryRest_70 rfl rfl
  · refine j_iload C dX0_tryRest_22 rfl ?_
    refine j_aload_n C dX0_tryRest_24 rfl ?_
    refine j_getR C dX0_tryRest_25 CF0 (by decide) fl_X0_33 rfl rfl h (fun t2 h => ?_)
    refine j_iconst C dX0_tryRest_28 rfl ?_
    refine j_iald C dX0_tryRest_29 rfl h (fun t3 h => ?_)
    refine j_icmp_eq C 64 dX0_tryRest_30 rfl h (fun c9 h => ?_) (fun c9 h => ?_)
    · exact X0_tryRest_J64_ok C hlv hr13 h
    · refine j_aload_n C dX0_tryRest_33 rfl ?_
      refine j_aload_n C dX0_tryRest_34 rfl ?_
      refine j_iconst C dX0_tryRest_35 rfl ?_
      refine j_iload C dX0_tryRest_36 rfl ?_
      obtain ⟨p4, ep4, h⟩ := bind_some h
      have qp4 := X0_canHang_ct ep4
      refine j_cSI C dX0_tryRest_38 sl_X0_58 qp4 (by omega) rfl rfl (Nat.le_of_ble_eq_true rfl) ?_
      refine j_if_eq C 64 dX0_tryRest_41 rfl h (fun c8 h => ?_) (fun c8 h => ?_)
      · exact X0_tryRest_J64_ok C hlv hr13 h
      · refine j_aload_n C dX0_tryRest_44 rfl ?_
        refine j_iconst C dX0_tryRest_45 rfl ?_
        refine j_iload C dX0_tryRest_46 rfl ?_
        refine j_iconst C dX0_tryRest_48 rfl ?_
        obtain ⟨p5, ep5, h⟩ := bind_some h
        have qp5 := X0_hangOn_ct ep5
        refine j_cVV C dX0_tryRest_49 vl_X0_62 CF0 rfl qp5.1 qp5.2 (by omega) rfl rfl (Nat.le_of_ble_eq_true rfl) ?_
        refine j_aload_n C dX0_tryRest_52 rfl ?_
        obtain ⟨p6, ep6, h⟩ := bind_some h
        have qp6 := X0_judge_ct ep6
        refine j_cVV C dX0_tryRest_53 vl_X0_70 CF0 rfl qp6.1 qp6.2 (by omega) rfl rfl (Nat.le_of_ble_eq_true rfl) ?_
        refine j_aload_n C dX0_tryRest_56 rfl ?_
        refine j_iconst C dX0_tryRest_57 rfl ?_
        refine j_iload C dX0_tryRest_58 rfl ?_
        refine j_iconst C dX0_tryRest_60 rfl ?_
        obtain ⟨p7, ep7, h⟩ := bind_some h
        have qp7 := X0_hangOn_ct ep7
        refine j_cVV C dX0_tryRest_61 vl_X0_62 CF0 rfl qp7.1 qp7.2 (by omega) rfl rfl (Nat.le_of_ble_eq_true rfl) ?_
        exact X0_tryRest_J64_ok C hlv hr13 h
set_option maxRecDepth 100000 in
set_option maxHeartbeats 4000000 in
theorem X0_tryRest_L13_ok {g : Gm} {w : Wd} (C : Cx g w RX0 cX0_tryRest 5 none) {lv : Nat} (hlv : 4 < lv) {N : Nat} {out : Mem} (f : Nat) : ∀ {l0 : Nat} {l1 : Nat} {l2 : Nat} {l4 : Int} {m : Mem}, X0_tryRest_L13 N f l0 l1 l2 l4 m = some out → Jd g w 5 (rmL lv 0 0) (Qm g w none out) 13 [some (vR l0), some (vR l1), some (vR l2), none, some (vI l4)] [] 312 m 0 0 := by
  induction f with
  | zero => intro l0 l1 l2 l4 m h; exact none_ne (α := Mem) h
  | succ f ih => intro l0 l1 l2 l4 m h; exact X0_tryRest_L13_bok C hlv (fun l0 l1 l2 l4 m h => ih h) h
set_option maxRecDepth 100000 in
set_option maxHeartbeats 4000000 in
theorem X0_tryRest_ct {N : Nat} {l0 : Nat} {l1 : Nat} {l2 : Nat} {l3 : Int} {m : Mem} {out : Mem} (h : X0_tryRest N l0 l1 l2 l3 m = some out) : shK l0 = 0 + 10 ∧ CT yX0_tryRest cX0_tryRest 5 none 5 0 0 [vR l0, vR l1, vR l2, vI l3] 312 m none 312 out := by
  unfold X0_tryRest at h
  obtain ⟨hK, h⟩ := ite_some h
  have hlv : 4 < 5 := by decide
  refine ⟨hK, CT.of (by decide +kernel) rfl (Nat.le_of_ble_eq_true rfl) (ls := [some (vR l0), some (vR l1), some (vR l2), some (vI l3), none]) rfl fun g w C _ => ?_⟩
  refine j_iload_n C dX0_tryRest_0 rfl ?_
  refine j_iconst C dX0_tryRest_1 rfl ?_
  refine j_icmp_ne C 10 dX0_tryRest_2 rfl h (fun c12 h => ?_) (fun c12 h => ?_)
  · refine j_iconst C dX0_tryRest_10 rfl ?_
    refine j_istore (ls' := [some (vR _), some (vR _), some (vR _), some (vI _), some (vI _)]) C dX0_tryRest_11 (by decide) rfl ?_
    refine j_mask [true, true, true, false, true] (ls' := [some (vR _), some (vR _), some (vR _), none, some (vI _)]) rfl ?_
    exact X0_tryRest_L13_ok C hlv N h
  · refine j_aload_n C dX0_tryRest_5 rfl ?_
    obtain ⟨p11, ep11, h⟩ := bind_some h
    have qp11 := X0_judge_ct ep11
    refine j_cVV C dX0_tryRest_6 vl_X0_70 CF0 rfl qp11.1 qp11.2 (by omega) rfl rfl (Nat.le_of_ble_eq_true rfl) ?_
    have e := Option.some.inj h
    subst e
    exact j_rv C dX0_tryRest_9 rfl rfl
theorem dX0_find_0 : decode cX0_find 0 = .ok (.aload_n 0, 1) := by decide +kernel
theorem dX0_find_1 : decode cX0_find 1 = .ok (.getfield 9, 3) := by decide +kernel
theorem dX0_find_4 : decode cX0_find 4 = .ok (.iload 4, 2) := by decide +kernel
theorem dX0_find_6 : decode cX0_find 6 = .ok (.if_icmp .eq 24, 3) := by decide +kernel
theorem dX0_find_9 : decode cX0_find 9 = .ok (.iload 4, 2) := by decide +kernel
theorem dX0_find_11 : decode cX0_find 11 = .ok (.iconst 1, 1) := by decide +kernel
theorem dX0_find_12 : decode cX0_find 12 = .ok (.if_icmp .lt 18, 3) := by decide +kernel
theorem dX0_find_15 : decode cX0_find 15 = .ok (.iload 4, 2) := by decide +kernel
theorem dX0_find_17 : decode cX0_find 17 = .ok (.iconst 2, 1) := by decide +kernel
theorem dX0_find_18 : decode cX0_find 18 = .ok (.if_icmp .gt 12, 3) := by decide +kernel
theorem dX0_find_21 : decode cX0_find 21 = .ok (.iload 4, 2) := by decide +kernel
theorem dX0_find_23 : decode cX0_find 23 = .ok (.aload_n 1, 1) := by decide +kernel
theorem dX0_find_24 : decode cX0_find 24 = .ok (.getfield 45, 3) := by decide +kernel
theorem dX0_find_27 : decode cX0_find 27 = .ok (.if_icmp .le 4, 3) := by decide +kernel
theorem dX0_find_30 : decode cX0_find 30 = .ok (.return_, 1) := by decide +kernel
theorem dX0_find_31 : decode cX0_find 31 = .ok (.aload_n 0, 1) := by decide +kernel
theorem dX0_find_32 : decode cX0_find 32 = .ok (.aload_n 1, 1) := by decide +kernel
theorem dX0_find_33 : decode cX0_find 33 = .ok (.aload_n 2, 1) := by decide +kernel
theorem dX0_find_34 : decode cX0_find 34 = .ok (.aload_n 3, 1) := by decide +kernel
theorem dX0_find_35 : decode cX0_find 35 = .ok (.iload 4, 2) := by decide +kernel
theorem dX0_find_37 : decode cX0_find 37 = .ok (.invokevirtual 50, 3) := by decide +kernel
theorem dX0_find_40 : decode cX0_find 40 = .ok (.aload_n 0, 1) := by decide +kernel
theorem dX0_find_41 : decode cX0_find 41 = .ok (.iconst (-1), 1) := by decide +kernel
theorem dX0_find_42 : decode cX0_find 42 = .ok (.putfield 39, 3) := by decide +kernel
theorem dX0_find_45 : decode cX0_find 45 = .ok (.iconst 0, 1) := by decide +kernel
theorem dX0_find_46 : decode cX0_find 46 = .ok (.istore 5, 2) := by decide +kernel
theorem dX0_find_48 : decode cX0_find 48 = .ok (.iload 5, 2) := by decide +kernel
theorem dX0_find_50 : decode cX0_find 50 = .ok (.aload_n 1, 1) := by decide +kernel
theorem dX0_find_51 : decode cX0_find 51 = .ok (.invokevirtual 54, 3) := by decide +kernel
theorem dX0_find_54 : decode cX0_find 54 = .ok (.if_icmp .ge 44, 3) := by decide +kernel
theorem dX0_find_57 : decode cX0_find 57 = .ok (.aload_n 1, 1) := by decide +kernel
theorem dX0_find_58 : decode cX0_find 58 = .ok (.aload_n 2, 1) := by decide +kernel
theorem dX0_find_59 : decode cX0_find 59 = .ok (.iconst 0, 1) := by decide +kernel
theorem dX0_find_60 : decode cX0_find 60 = .ok (.iload 5, 2) := by decide +kernel
theorem dX0_find_62 : decode cX0_find 62 = .ok (.invokestatic 58, 3) := by decide +kernel
theorem dX0_find_65 : decode cX0_find 65 = .ok (.ifCond .eq 27, 3) := by decide +kernel
theorem dX0_find_68 : decode cX0_find 68 = .ok (.aload_n 0, 1) := by decide +kernel
theorem dX0_find_69 : decode cX0_find 69 = .ok (.iconst 0, 1) := by decide +kernel
theorem dX0_find_70 : decode cX0_find 70 = .ok (.iload 5, 2) := by decide +kernel
theorem dX0_find_72 : decode cX0_find 72 = .ok (.iconst 1, 1) := by decide +kernel
theorem dX0_find_73 : decode cX0_find 73 = .ok (.invokevirtual 62, 3) := by decide +kernel
theorem dX0_find_76 : decode cX0_find 76 = .ok (.aload_n 0, 1) := by decide +kernel
theorem dX0_find_77 : decode cX0_find 77 = .ok (.aload_n 1, 1) := by decide +kernel
theorem dX0_find_78 : decode cX0_find 78 = .ok (.aload_n 2, 1) := by decide +kernel
theorem dX0_find_79 : decode cX0_find 79 = .ok (.iload 4, 2) := by decide +kernel
theorem dX0_find_81 : decode cX0_find 81 = .ok (.invokevirtual 66, 3) := by decide +kernel
theorem dX0_find_84 : decode cX0_find 84 = .ok (.aload_n 0, 1) := by decide +kernel
theorem dX0_find_85 : decode cX0_find 85 = .ok (.iconst 0, 1) := by decide +kernel
theorem dX0_find_86 : decode cX0_find 86 = .ok (.iload 5, 2) := by decide +kernel
theorem dX0_find_88 : decode cX0_find 88 = .ok (.iconst (-1), 1) := by decide +kernel
theorem dX0_find_89 : decode cX0_find 89 = .ok (.invokevirtual 62, 3) := by decide +kernel
theorem dX0_find_92 : decode cX0_find 92 = .ok (.iinc 5 1, 3) := by decide +kernel
theorem dX0_find_95 : decode cX0_find 95 = .ok (.goto (-47), 3) := by decide +kernel
theorem dX0_find_98 : decode cX0_find 98 = .ok (.aload_n 0, 1) := by decide +kernel
theorem dX0_find_99 : decode cX0_find 99 = .ok (.iload 4, 2) := by decide +kernel
theorem dX0_find_101 : decode cX0_find 101 = .ok (.putfield 9, 3) := by decide +kernel
theorem dX0_find_104 : decode cX0_find 104 = .ok (.return_, 1) := by decide +kernel
set_option maxRecDepth 100000 in
set_option maxHeartbeats 4000000 in
theorem X0_find_J92_ok {g : Gm} {w : Wd} (C : Cx g w RX0 cX0_find 6 none) {lv : Nat} (hlv : 5 < lv) {N : Nat} {r48 : Nat → Nat → Nat → Int → Int → Mem → Option Mem } {l0 : Nat} {l1 : Nat} {l2 : Nat} {l4 : Int} {l5 : Int} {m : Mem} {out : Mem} (hr48 : ∀ l0 l1 l2 l4 l5 m, r48 l0 l1 l2 l4 l5 m = some out → Jd g w 6 (rmL lv 0 0) (Qm g w none out) 48 [some (vR l0), some (vR l1), some (vR l2), none, some (vI l4), some (vI l5)] [] 312 m 0 0) (h : X0_find_J92 N r48 l0 l1 l2 l4 l5 m = some out) : Jd g w 6 (rmL lv 0 0) (Qm g w none out) 92 [some (vR l0), some (vR l1), some (vR l2), none, some (vI l4), some (vI l5)] [] 312 m 0 0 := by
  unfold X0_find_J92 at h
  refine j_iinc (ls' := [some (vR _), some (vR _), some (vR _), none, some (vI _), some (vI _)]) C dX0_find_92 rfl (by decide) rfl ?_
  refine j_goto C 48 dX0_find_95 rfl ?_
  exact hr48 _ _ _ _ _ _ h
set_option maxRecDepth 100000 in
set_option maxHeartbeats 4000000 in
theorem X0_find_L48_bok {g : Gm} {w : Wd} (C : Cx g w RX0 cX0_find 6 none) {lv : Nat} (hlv : 5 < lv) {N : Nat} {k98 : Nat → Int → Mem → Option Mem} {r48 : Nat → Nat → Nat → Int → Int → Mem → Option Mem} {l0 : Nat} {l1 : Nat} {l2 : Nat} {l4 : Int} {l5 : Int} {m : Mem} {out : Mem} (hk98 : ∀ l0 l4 m, k98 l0 l4 m = some out → Jd g w 6 (rmL lv 0 0) (Qm g w none out) 98 [some (vR l0), none, none, none, some (vI l4), none] [] 312 m 0 0) (hr48 : ∀ l0 l1 l2 l4 l5 m, r48 l0 l1 l2 l4 l5 m = some out → Jd g w 6 (rmL lv 0 0) (Qm g w none out) 48 [some (vR l0), some (vR l1), some (vR l2), none, some (vI l4), some (vI l5)] [] 312 m 0 0) (h : X0_find_L48_b N k98 r48 l0 l1 l2 l4 l5 m = some out) : Jd g w 6 (rmL lv 0 0) (Qm g w none out) 48 [some (vR l0), some (vR l1), some (vR l2), none, some (vI l4), some (vI l5)] [] 312 m 0 0 := by
  unfold X0_find_L48_b at h
  refine j_iload C dX0_find_48 rfl ?_
  refine j_aload_n C dX0_find_50 rfl ?_
  obtain ⟨p5, ep5, h⟩ := bind_some h
  have qp5 := X5_cells_ct ep5
  refine j_cVI C dX0_find_51 vl_X0_54 CF5 rfl qp5.1 qp5.2 (by omega) rfl rfl (Nat.le_of_ble_eq_true rfl) ?_
  refine j_icmp_ge C 98 dX0_find_54 rfl h (fun c11 h => ?_) (fun c11 h => ?_)
  · refine j_mask [true, false, false, false, true, false] (ls' := [some (vR _), none, none, none, some (vI _), none]) rfl ?_
    exact hk98 _ _ _ h
  · refine j_aload_n C dX0_find_57 rfl ?_
    refine j_aload_n C dX0_find_58 rfl ?_
    refine j_iconst C dX0_find_59 rfl ?_
    refine j_iload C dX0_find_60 rfl ?_
    obtain ⟨p6, ep6, h⟩ := bind_some h
    have qp6 := X0_canHang_ct ep6
    refine j_cSI C dX0_find_62 sl_X0_58 qp6 (by omega) rfl rfl (Nat.le_of_ble_eq_true rfl) ?_
    refine j_if_eq C 92 dX0_find_65 rfl h (fun c10 h => ?_) (fun c10 h => ?_)
    · exact X0_find_J92_ok C hlv hr48 h
    · refine j_aload_n C dX0_find_68 rfl ?_
      refine j_iconst C dX0_find_69 rfl ?_
      refine j_iload C dX0_find_70 rfl ?_
      refine j_iconst C dX0_find_72 rfl ?_
      obtain ⟨p7, ep7, h⟩ := bind_some h
      have qp7 := X0_hangOn_ct ep7
      refine j_cVV C dX0_find_73 vl_X0_62 CF0 rfl qp7.1 qp7.2 (by omega) rfl rfl (Nat.le_of_ble_eq_true rfl) ?_
      refine j_aload_n C dX0_find_76 rfl ?_
      refine j_aload_n C dX0_find_77 rfl ?_
      refine j_aload_n C dX0_find_78 rfl ?_
      refine j_iload C dX0_find_79 rfl ?_
      obtain ⟨p8, ep8, h⟩ := bind_some h
      have qp8 := X0_tryRest_ct ep8
      refine j_cVV C dX0_find_81 vl_X0_66 CF0 rfl qp8.1 qp8.2 (by omega) rfl rfl (Nat.le_of_ble_eq_true rfl) ?_
      refine j_aload_n C dX0_find_84 rfl ?_
      refine j_iconst C dX0_find_85 rfl ?_
      refine j_iload C dX0_find_86 rfl ?_
      refine j_iconst C dX0_find_88 rfl ?_
      obtain ⟨p9, ep9, h⟩ := bind_some h
      have qp9 := X0_hangOn_ct ep9
      refine j_cVV C dX0_find_89 vl_X0_62 CF0 rfl qp9.1 qp9.2 (by omega) rfl rfl (Nat.le_of_ble_eq_true rfl) ?_
      exact X0_find_J92_ok C hlv hr48 h
set_option maxRecDepth 100000 in
set_option maxHeartbeats 4000000 in
theorem X0_find_L48_ok {g : Gm} {w : Wd} (C : Cx g w RX0 cX0_find 6 none) {lv : Nat} (hlv : 5 < lv) {N : Nat} {k98 : Nat → Int → Mem → Option Mem} {out : Mem} (hk98 : ∀ l0 l4 m, k98 l0 l4 m = some out → Jd g w 6 (rmL lv 0 0) (Qm g w none out) 98 [some (vR l0), none, none, none, some (vI l4), none] [] 312 m 0 0) (f : Nat) : ∀ {l0 : Nat} {l1 : Nat} {l2 : Nat} {l4 : Int} {l5 : Int} {m : Mem}, X0_find_L48 N k98 f l0 l1 l2 l4 l5 m = some out → Jd g w 6 (rmL lv 0 0) (Qm g w none out) 48 [some (vR l0), some (vR l1), some (vR l2), none, some (vI l4), some (vI l5)] [] 312 m 0 0 := by
  induction f with
  | zero => intro l0 l1 l2 l4 l5 m h; exact none_ne (α := Mem) h
  | succ f ih => intro l0 l1 l2 l4 l5 m h; exact X0_find_L48_bok C hlv hk98 (fun l0 l1 l2 l4 l5 m h => ih h) h
set_option maxRecDepth 100000 in
set_option maxHeartbeats 4000000 in
theorem X0_find_ct {N : Nat} {l0 : Nat} {l1 : Nat} {l2 : Nat} {l3 : Nat} {l4 : Int} {m : Mem} {out : Mem} (h : X0_find N l0 l1 l2 l3 l4 m = some out) : shK l0 = 0 + 10 ∧ CT yX0_find cX0_find 6 none 6 0 0 [vR l0, vR l1, vR l2, vR l3, vI l4] 312 m none 312 out := by
  unfold X0_find at h
  obtain ⟨hK, h⟩ := ite_some h
  have hlv : 5 < 6 := by decide
  refine ⟨hK, CT.of (by decide +kernel) rfl (Nat.le_of_ble_eq_true rfl) (ls := [some (vR l0), some (vR l1), some (vR l2), some (vR l3), some (vI l4), none]) rfl fun g w C _ => ?_⟩
  refine j_aload_n C dX0_find_0 rfl ?_
  refine j_getI C dX0_find_1 CF0 (by decide) fl_X0_9 rfl rfl h (fun t1 h => ?_)
  refine j_iload C dX0_find_4 rfl ?_
  refine j_icmp_eq C 30 dX0_find_6 rfl h (fun c19 h => ?_) (fun c19 h => ?_)
  · have e := Option.some.inj h
    subst e
    exact j_rv C dX0_find_30 rfl rfl
  · refine j_iload C dX0_find_9 rfl ?_
    refine j_iconst C dX0_find_11 rfl ?_
    refine j_icmp_lt C 30 dX0_find_12 rfl h (fun c18 h => ?_) (fun c18 h => ?_)
    · have e := Option.some.inj h
      subst e
      exact j_rv C dX0_find_30 rfl rfl
    · refine j_iload C dX0_find_15 rfl ?_
      refine j_iconst C dX0_find_17 rfl ?_
      refine j_icmp_gt C 30 dX0_find_18 rfl h (fun c17 h => ?_) (fun c17 h => ?_)
      · have e := Option.some.inj h
        subst e
        exact j_rv C dX0_find_30 rfl rfl
      · refine j_iload C dX0_find_21 rfl ?_
        refine j_aload_n C dX0_find_23 rfl ?_
        refine j_getI C dX0_find_24 CF5 (by decide) fl_X0_45 rfl rfl h (fun t2 h => ?_)
        refine j_icmp_le C 31 dX0_find_27 rfl h (fun c16 h => ?_) (fun c16 h => ?_)
        · refine j_aload_n C dX0_find_31 rfl ?_
          refine j_aload_n C dX0_find_32 rfl ?_
          refine j_aload_n C dX0_find_33 rfl ?_
          refine j_aload_n C dX0_find_34 rfl ?_
          refine j_iload C dX0_find_35 rfl ?_
          obtain ⟨p3, ep3, h⟩ := bind_some h
          have qp3 := X0_prepare_ct ep3
          refine j_cVV C dX0_find_37 vl_X0_50 CF0 rfl qp3.1 qp3.2 (by omega) rfl rfl (Nat.le_of_ble_eq_true rfl) ?_
          refine j_aload_n C dX0_find_40 rfl ?_
          refine j_iconst C dX0_find_41 rfl ?_
          refine j_putI C dX0_find_42 CF0 (by decide) fl_X0_39 rfl rfl rfl rfl h (fun m4 h => ?_)
          refine j_iconst C dX0_find_45 rfl ?_
          refine j_istore (ls' := [some (vR _), some (vR _), some (vR _), some (vR _), some (vI _), some (vI _)]) C dX0_find_46 (by decide) rfl ?_
          refine j_mask [true, true, true, false, true, true] (ls' := [some (vR _), some (vR _), some (vR _), none, some (vI _), some (vI _)]) rfl ?_
          refine X0_find_L48_ok C hlv (fun z12 z13 m14 h => ?_) N h
          refine j_aload_n C dX0_find_98 rfl ?_
          refine j_iload C dX0_find_99 rfl ?_
          refine j_putI C dX0_find_101 CF0 (by decide) fl_X0_9 rfl rfl rfl rfl h (fun m15 h => ?_)
          have e := Option.some.inj h
          subst e
          exact j_rv C dX0_find_104 rfl rfl
        · have e := Option.some.inj h
          subst e
          exact j_rv C dX0_find_30 rfl rfl
