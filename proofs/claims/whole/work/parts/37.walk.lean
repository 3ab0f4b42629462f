theorem dX11_begin_0 : decode cX11_begin 0 = .ok (.aload_n 0, 1) := by decide +kernel
theorem dX11_begin_1 : decode cX11_begin 1 = .ok (.getfield 164, 3) := by decide +kernel
theorem dX11_begin_4 : decode cX11_begin 4 = .ok (.iconst 0, 1) := by decide +kernel
theorem dX11_begin_5 : decode cX11_begin 5 = .ok (.iconst 0, 1) := by decide +kernel
theorem dX11_begin_6 : decode cX11_begin 6 = .ok (.iastore, 1) := by decide +kernel
theorem dX11_begin_7 : decode cX11_begin 7 = .ok (.aload_n 0, 1) := by decide +kernel
theorem dX11_begin_8 : decode cX11_begin 8 = .ok (.iconst 0, 1) := by decide +kernel
theorem dX11_begin_9 : decode cX11_begin 9 = .ok (.putfield 179, 3) := by decide +kernel
theorem dX11_begin_12 : decode cX11_begin 12 = .ok (.aload_n 0, 1) := by decide +kernel
theorem dX11_begin_13 : decode cX11_begin 13 = .ok (.iconst 0, 1) := by decide +kernel
theorem dX11_begin_14 : decode cX11_begin 14 = .ok (.putfield 230, 3) := by decide +kernel
theorem dX11_begin_17 : decode cX11_begin 17 = .ok (.iconst 0, 1) := by decide +kernel
theorem dX11_begin_18 : decode cX11_begin 18 = .ok (.istore_n 1, 1) := by decide +kernel
theorem dX11_begin_19 : decode cX11_begin 19 = .ok (.iload_n 1, 1) := by decide +kernel
theorem dX11_begin_20 : decode cX11_begin 20 = .ok (.bipush 42, 2) := by decide +kernel
theorem dX11_begin_22 : decode cX11_begin 22 = .ok (.if_icmp .ge 29, 3) := by decide +kernel
theorem dX11_begin_25 : decode cX11_begin 25 = .ok (.aload_n 0, 1) := by decide +kernel
theorem dX11_begin_26 : decode cX11_begin 26 = .ok (.getfield 167, 3) := by decide +kernel
theorem dX11_begin_29 : decode cX11_begin 29 = .ok (.iload_n 1, 1) := by decide +kernel
theorem dX11_begin_30 : decode cX11_begin 30 = .ok (.aload_n 0, 1) := by decide +kernel
theorem dX11_begin_31 : decode cX11_begin 31 = .ok (.getfield 63, 3) := by decide +kernel
theorem dX11_begin_34 : decode cX11_begin 34 = .ok (.bipush 42, 2) := by decide +kernel
theorem dX11_begin_36 : decode cX11_begin 36 = .ok (.aload_n 0, 1) := by decide +kernel
theorem dX11_begin_37 : decode cX11_begin 37 = .ok (.getfield 51, 3) := by decide +kernel
theorem dX11_begin_40 : decode cX11_begin 40 = .ok (.imul, 1) := by decide +kernel
theorem dX11_begin_41 : decode cX11_begin 41 = .ok (.iload_n 1, 1) := by decide +kernel
theorem dX11_begin_42 : decode cX11_begin 42 = .ok (.iadd, 1) := by decide +kernel
theorem dX11_begin_43 : decode cX11_begin 43 = .ok (.iaload, 1) := by decide +kernel
theorem dX11_begin_44 : decode cX11_begin 44 = .ok (.iastore, 1) := by decide +kernel
theorem dX11_begin_45 : decode cX11_begin 45 = .ok (.iinc 1 1, 3) := by decide +kernel
theorem dX11_begin_48 : decode cX11_begin 48 = .ok (.goto (-29), 3) := by decide +kernel
theorem dX11_begin_51 : decode cX11_begin 51 = .ok (.iconst 0, 1) := by decide +kernel
theorem dX11_begin_52 : decode cX11_begin 52 = .ok (.istore_n 1, 1) := by decide +kernel
theorem dX11_begin_53 : decode cX11_begin 53 = .ok (.iload_n 1, 1) := by decide +kernel
theorem dX11_begin_54 : decode cX11_begin 54 = .ok (.bipush 10, 2) := by decide +kernel
theorem dX11_begin_56 : decode cX11_begin 56 = .ok (.if_icmp .ge 29, 3) := by decide +kernel
theorem dX11_begin_59 : decode cX11_begin 59 = .ok (.aload_n 0, 1) := by decide +kernel
theorem dX11_begin_60 : decode cX11_begin 60 = .ok (.getfield 170, 3) := by decide +kernel
theorem dX11_begin_63 : decode cX11_begin 63 = .ok (.iload_n 1, 1) := by decide +kernel
theorem dX11_begin_64 : decode cX11_begin 64 = .ok (.aload_n 0, 1) := by decide +kernel
theorem dX11_begin_65 : decode cX11_begin 65 = .ok (.getfield 90, 3) := by decide +kernel
theorem dX11_begin_68 : decode cX11_begin 68 = .ok (.bipush 10, 2) := by decide +kernel
theorem dX11_begin_70 : decode cX11_begin 70 = .ok (.aload_n 0, 1) := by decide +kernel
theorem dX11_begin_71 : decode cX11_begin 71 = .ok (.getfield 51, 3) := by decide +kernel
theorem dX11_begin_74 : decode cX11_begin 74 = .ok (.imul, 1) := by decide +kernel
theorem dX11_begin_75 : decode cX11_begin 75 = .ok (.iload_n 1, 1) := by decide +kernel
theorem dX11_begin_76 : decode cX11_begin 76 = .ok (.iadd, 1) := by decide +kernel
theorem dX11_begin_77 : decode cX11_begin 77 = .ok (.iaload, 1) := by decide +kernel
theorem dX11_begin_78 : decode cX11_begin 78 = .ok (.iastore, 1) := by decide +kernel
theorem dX11_begin_79 : decode cX11_begin 79 = .ok (.iinc 1 1, 3) := by decide +kernel
theorem dX11_begin_82 : decode cX11_begin 82 = .ok (.goto (-29), 3) := by decide +kernel
theorem dX11_begin_85 : decode cX11_begin 85 = .ok (.iconst 0, 1) := by decide +kernel
theorem dX11_begin_86 : decode cX11_begin 86 = .ok (.istore_n 1, 1) := by decide +kernel
theorem dX11_begin_87 : decode cX11_begin 87 = .ok (.iload_n 1, 1) := by decide +kernel
theorem dX11_begin_88 : decode cX11_begin 88 = .ok (.iconst 5, 1) := by decide +kernel
theorem dX11_begin_89 : decode cX11_begin 89 = .ok (.if_icmp .ge 16, 3) := by decide +kernel
theorem dX11_begin_92 : decode cX11_begin 92 = .ok (.aload_n 0, 1) := by decide +kernel
theorem dX11_begin_93 : decode cX11_begin 93 = .ok (.getfield 173, 3) := by decide +kernel
theorem dX11_begin_96 : decode cX11_begin 96 = .ok (.iload_n 1, 1) := by decide +kernel
theorem dX11_begin_97 : decode cX11_begin 97 = .ok (.iconst 0, 1) := by decide +kernel
theorem dX11_begin_98 : decode cX11_begin 98 = .ok (.iastore, 1) := by decide +kernel
theorem dX11_begin_99 : decode cX11_begin 99 = .ok (.iinc 1 1, 3) := by decide +kernel
theorem dX11_begin_102 : decode cX11_begin 102 = .ok (.goto (-15), 3) := by decide +kernel
theorem dX11_begin_105 : decode cX11_begin 105 = .ok (.return_, 1) := by decide +kernel
set_option maxRecDepth 100000 in
set_option maxHeartbeats 4000000 in
theorem X11_begin_L19_bok {g : Gm} {w : Wd} (C : Cx g w RX11 cX11_begin 2 none) {lv : Nat} (hlv : 0 < lv) {N : Nat} {k51 : Nat → Mem → Option Mem} {r19 : Nat → Int → Mem → Option Mem} {l0 : Nat} {l1 : Int} {m : Mem} {out : Mem} (hk51 : ∀ l0 m, k51 l0 m = some out → Jd g w 2 (rmL lv 0 0) (Qm g w none out) 51 [some (vR l0), none] [] 312 m 0 0) (hr19 : ∀ l0 l1 m, r19 l0 l1 m = some out → Jd g w 2 (rmL lv 0 0) (Qm g w none out) 19 [some (vR l0), some (vI l1)] [] 312 m 0 0) (h : X11_begin_L19_b N k51 r19 l0 l1 m = some out) : Jd g w 2 (rmL lv 0 0) (Qm g w none out) 19 [some (vR l0), some (vI l1)] [] 312 m 0 0 := by
  unfold X11_begin_L19_b at h
  refine j_iload_n C dX11_begin_19 rfl ?_
  refine j_bipush C dX11_begin_20 rfl ?_
  refine j_icmp_ge C 51 dX11_begin_22 rfl h (fun c10 h => ?_) (fun c10 h => ?_)
  · refine j_mask [true, false] (ls' := [some (vR _), none]) rfl ?_
    exact hk51 _ _ h
  · refine j_aload_n C dX11_begin_25 rfl ?_
    refine j_getR C dX11_begin_26 CF11 (by decide) fl_X11_167 rfl rfl h (fun t5 h => ?_)
    refine j_iload_n C dX11_begin_29 rfl ?_
    refine j_aload_n C dX11_begin_30 rfl ?_
    refine j_getR C dX11_begin_31 CF11 (by decide) fl_X11_63 rfl rfl h (fun t6 h => ?_)
    refine j_bipush C dX11_begin_34 rfl ?_
    refine j_aload_n C dX11_begin_36 rfl ?_
    refine j_getI C dX11_begin_37 CF11 (by decide) fl_X11_51 rfl rfl h (fun t7 h => ?_)
    refine j_imul C dX11_begin_40 ?_
    refine j_iload_n C dX11_begin_41 rfl ?_
    refine j_iadd C dX11_begin_42 ?_
    refine j_iald C dX11_begin_43 rfl h (fun t8 h => ?_)
    refine j_iast C dX11_begin_44 rfl h (fun m9 h => ?_)
    refine j_iinc (ls' := [some (vR _), some (vI _)]) C dX11_begin_45 rfl (by decide) rfl ?_
    refine j_goto C 19 dX11_begin_48 rfl ?_
    exact hr19 _ _ _ h
set_option maxRecDepth 100000 in
set_option maxHeartbeats 4000000 in
theorem X11_begin_L19_ok {g : Gm} {w : Wd} (C : Cx g w RX11 cX11_begin 2 none) {lv : Nat} (hlv : 0 < lv) {N : Nat} {k51 : Nat → Mem → Option Mem} {out : Mem} (hk51 : ∀ l0 m, k51 l0 m = some out → Jd g w 2 (rmL lv 0 0) (Qm g w none out) 51 [some (vR l0), none] [] 312 m 0 0) (f : Nat) : ∀ {l0 : Nat} {l1 : Int} {m : Mem}, X11_begin_L19 N k51 f l0 l1 m = some out → Jd g w 2 (rmL lv 0 0) (Qm g w none out) 19 [some (vR l0), some (vI l1)] [] 312 m 0 0 := by
  induction f with
  | zero => intro l0 l1 m h; exact none_ne (α := Mem) h
  | succ f ih => intro l0 l1 m h; exact X11_begin_L19_bok C hlv hk51 (fun l0 l1 m h => ih h) h
set_option maxRecDepth 100000 in
set_option maxHeartbeats 4000000 in
theorem X11_begin_L53_bok {g : Gm} {w : Wd} (C : Cx g w RX11 cX11_begin 2 none) {lv : Nat} (hlv : 0 < lv) {N : Nat} {k85 : Nat → Mem → Option Mem} {r53 : Nat → Int → Mem → Option Mem} {l0 : Nat} {l1 : Int} {m : Mem} {out : Mem} (hk85 : ∀ l0 m, k85 l0 m = some out → Jd g w 2 (rmL lv 0 0) (Qm g w none out) 85 [some (vR l0), none] [] 312 m 0 0) (hr53 : ∀ l0 l1 m, r53 l0 l1 m = some out → Jd g w 2 (rmL lv 0 0) (Qm g w none out) 53 [some (vR l0), some (vI l1)] [] 312 m 0 0) (h : X11_begin_L53_b N k85 r53 l0 l1 m = some out) : Jd g w 2 (rmL lv 0 0) (Qm g w none out) 53 [some (vR l0), some (vI l1)] [] 312 m 0 0 := by
  unfold X11_begin_L53_b at h
  refine j_iload_n C dX11_begin_53 rfl ?_
  refine j_bipush C dX11_begin_54 rfl ?_
  refine j_icmp_ge C 85 dX11_begin_56 rfl h (fun c18 h => ?_) (fun c18 h => ?_)
  · refine j_mask [true, false] (ls' := [some (vR _), none]) rfl ?_
    exact hk85 _ _ h
  · refine j_aload_n C dX11_begin_59 rfl ?_
    refine j_getR C dX11_begin_60 CF11 (by decide) fl_X11_170 rfl rfl h (fun t13 h => ?_)
    refine j_iload_n C dX11_begin_63 rfl ?_
    refine j_aload_n C dX11_begin_64 rfl ?_
    refine j_getR C dX11_begin_65 CF11 (by decide) fl_X11_90 rfl rfl h (fun t14 h => ?_)
    refine j_bipush C dX11_begin_68 rfl ?_
    refine j_aload_n C dX11_begin_70 rfl ?_
    refine j_getI C dX11_begin_71 CF11 (by decide) fl_X11_51 rfl rfl h (fun t15 h => ?_)
    refine j_imul C dX11_begin_74 ?_
    refine j_iload_n C dX11_begin_75 rfl ?_
    refine j_iadd C dX11_begin_76 ?_
    refine j_iald C dX11_begin_77 rfl h (fun t16 h => ?_)
    refine j_iast C dX11_begin_78 rfl h (fun m17 h => ?_)
    refine j_iinc (ls' := [some (vR _), some (vI _)]) C dX11_begin_79 rfl (by decide) rfl ?_
    refine j_goto C 53 dX11_begin_82 rfl ?_
    exact hr53 _ _ _ h
set_option maxRecDepth 100000 in
set_option maxHeartbeats 4000000 in
theorem X11_begin_L53_ok {g : Gm} {w : Wd} (C : Cx g w RX11 cX11_begin 2 none) {lv : Nat} (hlv : 0 < lv) {N : Nat} {k85 : Nat → Mem → Option Mem} {out : Mem} (hk85 : ∀ l0 m, k85 l0 m = some out → Jd g w 2 (rmL lv 0 0) (Qm g w none out) 85 [some (vR l0), none] [] 312 m 0 0) (f : Nat) : ∀ {l0 : Nat} {l1 : Int} {m : Mem}, X11_begin_L53 N k85 f l0 l1 m = some out → Jd g w 2 (rmL lv 0 0) (Qm g w none out) 53 [some (vR l0), some (vI l1)] [] 312 m 0 0 := by
  induction f with
  | zero => intro l0 l1 m h; exact none_ne (α := Mem) h
  | succ f ih => intro l0 l1 m h; exact X11_begin_L53_bok C hlv hk85 (fun l0 l1 m h => ih h) h
set_option maxRecDepth 100000 in
set_option maxHeartbeats 4000000 in
theorem X11_begin_L87_bok {g : Gm} {w : Wd} (C : Cx g w RX11 cX11_begin 2 none) {lv : Nat} (hlv : 0 < lv) {N : Nat} {r87 : Nat → Int → Mem → Option Mem} {l0 : Nat} {l1 : Int} {m : Mem} {out : Mem} (hr87 : ∀ l0 l1 m, r87 l0 l1 m = some out → Jd g w 2 (rmL lv 0 0) (Qm g w none out) 87 [some (vR l0), some (vI l1)] [] 312 m 0 0) (h : X11_begin_L87_b N r87 l0 l1 m = some out) : Jd g w 2 (rmL lv 0 0) (Qm g w none out) 87 [some (vR l0), some (vI l1)] [] 312 m 0 0 := by
  unfold X11_begin_L87_b at h
  refine j_iload_n C dX11_begin_87 rfl ?_
  refine j_iconst C dX11_begin_88 rfl ?_
  refine j_icmp_ge C 105 dX11_begin_89 rfl h (fun c23 h => ?_) (fun c23 h => ?_)
  · have e := Option.some.inj h
    subst e
    exact j_rv C dX11_begin_105 rfl rfl
  · refine j_aload_n C dX11_begin_92 rfl ?_
    refine j_getR C dX11_begin_93 CF11 (by decide) fl_X11_173 rfl rfl h (fun t21 h => ?_)
    refine j_iload_n C dX11_begin_96 rfl ?_
    refine j_iconst C dX11_begin_97 rfl ?_
    refine j_iast C dX11_begin_98 rfl h (fun m22 h => ?_)
    refine j_iinc (ls' := [some (vR _), some (vI _)]) C dX11_begin_99 rfl (by decide) rfl ?_
    refine j_goto C 87 dX11_begin_102 rfl ?_
    exact hr87 _ _ _ h
set_option maxRecDepth 100000 in
set_option maxHeartbeats 4000000 in
theorem X11_begin_L87_ok {g : Gm} {w : Wd} (C : Cx g w RX11 cX11_begin 2 none) {lv : Nat} (hlv : 0 < lv) {N : Nat} {out : Mem} (f : Nat) : ∀ {l0 : Nat} {l1 : Int} {m : Mem}, X11_begin_L87 N f l0 l1 m = some out → Jd g w 2 (rmL lv 0 0) (Qm g w none out) 87 [some (vR l0), some (vI l1)] [] 312 m 0 0 := by
  induction f with
  | zero => intro l0 l1 m h; exact none_ne (α := Mem) h
  | succ f ih => intro l0 l1 m h; exact X11_begin_L87_bok C hlv (fun l0 l1 m h => ih h) h
set_option maxRecDepth 100000 in
set_option maxHeartbeats 4000000 in
theorem X11_begin_ct {N : Nat} {l0 : Nat} {m : Mem} {out : Mem} (h : X11_begin N l0 m = some out) : shK l0 = 11 + 10 ∧ CT yX11_begin cX11_begin 2 none 1 0 0 [vR l0] 312 m none 312 out := by
  unfold X11_begin at h
  obtain ⟨hK, h⟩ := ite_some h
  have hlv : 0 < 1 := by decide
  refine ⟨hK, CT.of (by decide +kernel) rfl (Nat.le_of_ble_eq_true rfl) (ls := [some (vR l0), none]) rfl fun g w C _ => ?_⟩
  refine j_aload_n C dX11_begin_0 rfl ?_
  refine j_getR C dX11_begin_1 CF11 (by decide) fl_X11_164 rfl rfl h (fun t1 h => ?_)
  refine j_iconst C dX11_begin_4 rfl ?_
  refine j_iconst C dX11_begin_5 rfl ?_
  refine j_iast C dX11_begin_6 rfl h (fun m2 h => ?_)
  refine j_aload_n C dX11_begin_7 rfl ?_
  refine j_iconst C dX11_begin_8 rfl ?_
  refine j_putI C dX11_begin_9 CF11 (by decide) fl_X11_179 rfl rfl rfl rfl h (fun m3 h => ?_)
  refine j_aload_n C dX11_begin_12 rfl ?_
  refine j_iconst C dX11_begin_13 rfl ?_
  refine j_putI C dX11_begin_14 CF11 (by decide) fl_X11_230 rfl rfl rfl rfl h (fun m4 h => ?_)
  refine j_iconst C dX11_begin_17 rfl ?_
  refine j_istore_n (ls' := [some (vR _), some (vI _)]) C dX11_begin_18 (by decide) rfl ?_
  refine X11_begin_L19_ok C hlv (fun z11 m12 h => ?_) N h
  refine j_iconst C dX11_begin_51 rfl ?_
  refine j_istore_n (ls' := [some (vR _), some (vI _)]) C dX11_begin_52 (by decide) rfl ?_
  refine X11_begin_L53_ok C hlv (fun z19 m20 h => ?_) N h
  refine j_iconst C dX11_begin_85 rfl ?_
  refine j_istore_n (ls' := [some (vR _), some (vI _)]) C dX11_begin_86 (by decide) rfl ?_
  exact X11_begin_L87_ok C hlv N h
theorem dX11_isCistern_0 : decode cX11_isCistern 0 = .ok (.iload_n 1, 1) := by decide +kernel
theorem dX11_isCistern_1 : decode cX11_isCistern 1 = .ok (.ifCond .lt 20, 3) := by decide +kernel
theorem dX11_isCistern_4 : decode cX11_isCistern 4 = .ok (.iload_n 1, 1) := by decide +kernel
theorem dX11_isCistern_5 : decode cX11_isCistern 5 = .ok (.aload_n 0, 1) := by decide +kernel
theorem dX11_isCistern_6 : decode cX11_isCistern 6 = .ok (.getfield 75, 3) := by decide +kernel
theorem dX11_isCistern_9 : decode cX11_isCistern 9 = .ok (.aload_n 0, 1) := by decide +kernel
theorem dX11_isCistern_10 : decode cX11_isCistern 10 = .ok (.getfield 51, 3) := by decide +kernel
theorem dX11_isCistern_13 : decode cX11_isCistern 13 = .ok (.iaload, 1) := by decide +kernel
theorem dX11_isCistern_14 : decode cX11_isCistern 14 = .ok (.if_icmp .ge 7, 3) := by decide +kernel
theorem dX11_isCistern_17 : decode cX11_isCistern 17 = .ok (.iconst 1, 1) := by decide +kernel
theorem dX11_isCistern_18 : decode cX11_isCistern 18 = .ok (.goto 4, 3) := by decide +kernel
theorem dX11_isCistern_21 : decode cX11_isCistern 21 = .ok (.iconst 0, 1) := by decide +kernel
theorem dX11_isCistern_22 : decode cX11_isCistern 22 = .ok (.ireturn, 1) := by decide +kernel
set_option maxRecDepth 100000 in
set_option maxHeartbeats 4000000 in
theorem X11_isCistern_ct {l0 : Nat} {l1 : Int} {m : Mem} {out : Int} (h : X11_isCistern l0 l1 m = some out) : shK l0 = 11 + 10 ∧ CT yX11_isCistern cX11_isCistern 2 (some .boolean) 1 0 0 [vR l0, vI l1] 312 m (some (vI out)) 312 m := by
  unfold X11_isCistern at h
  obtain ⟨hK, h⟩ := ite_some h
  have hlv : 0 < 1 := by decide
  refine ⟨hK, CT.of (by decide +kernel) rfl (Nat.le_of_ble_eq_true rfl) (ls := [some (vR l0), some (vI l1)]) rfl fun g w C _ => ?_⟩
  refine j_iload_n C dX11_isCistern_0 rfl ?_
  refine j_if_lt C 21 dX11_isCistern_1 rfl h (fun c5 h => ?_) (fun c5 h => ?_)
  · refine j_iconst C dX11_isCistern_21 rfl ?_
    exact j_rz C dX11_isCistern_22 rfl (retZ_some h) rfl
  · refine j_iload_n C dX11_isCistern_4 rfl ?_
    refine j_aload_n C dX11_isCistern_5 rfl ?_
    refine j_getR C dX11_isCistern_6 CF11 (by decide) fl_X11_75 rfl rfl h (fun t1 h => ?_)
    refine j_aload_n C dX11_isCistern_9 rfl ?_
    refine j_getI C dX11_isCistern_10 CF11 (by decide) fl_X11_51 rfl rfl h (fun t2 h => ?_)
    refine j_iald C dX11_isCistern_13 rfl h (fun t3 h => ?_)
    refine j_icmp_ge C 21 dX11_isCistern_14 rfl h (fun c4 h => ?_) (fun c4 h => ?_)
    · refine j_iconst C dX11_isCistern_21 rfl ?_
      exact j_rz C dX11_isCistern_22 rfl (retZ_some h) rfl
    · refine j_iconst C dX11_isCistern_17 rfl ?_
      refine j_goto C 22 dX11_isCistern_18 rfl ?_
      exact j_rz C dX11_isCistern_22 rfl (retZ_some h) rfl
theorem dX11_without_0 : decode cX11_without 0 = .ok (.aload_n 0, 1) := by decide +kernel
theorem dX11_without_1 : decode cX11_without 1 = .ok (.iconst 0, 1) := by decide +kernel
theorem dX11_without_2 : decode cX11_without 2 = .ok (.invokevirtual 544, 3) := by decide +kernel
theorem dX11_without_5 : decode cX11_without 5 = .ok (.aload_n 0, 1) := by decide +kernel
theorem dX11_without_6 : decode cX11_without 6 = .ok (.iconst 0, 1) := by decide +kernel
theorem dX11_without_7 : decode cX11_without 7 = .ok (.iload_n 2, 1) := by decide +kernel
theorem dX11_without_8 : decode cX11_without 8 = .ok (.invokevirtual 550, 3) := by decide +kernel
theorem dX11_without_11 : decode cX11_without 11 = .ok (.istore_n 3, 1) := by decide +kernel
theorem dX11_without_12 : decode cX11_without 12 = .ok (.aload_n 0, 1) := by decide +kernel
theorem dX11_without_13 : decode cX11_without 13 = .ok (.iconst 1, 1) := by decide +kernel
theorem dX11_without_14 : decode cX11_without 14 = .ok (.iconst 0, 1) := by decide +kernel
theorem dX11_without_15 : decode cX11_without 15 = .ok (.invokevirtual 448, 3) := by decide +kernel
theorem dX11_without_18 : decode cX11_without 18 = .ok (.aload_n 0, 1) := by decide +kernel
theorem dX11_without_19 : decode cX11_without 19 = .ok (.getfield 167, 3) := by decide +kernel
theorem dX11_without_22 : decode cX11_without 22 = .ok (.bipush 42, 2) := by decide +kernel
theorem dX11_without_24 : decode cX11_without 24 = .ok (.iload_n 1, 1) := by decide +kernel
theorem dX11_without_25 : decode cX11_without 25 = .ok (.iadd, 1) := by decide +kernel
theorem dX11_without_26 : decode cX11_without 26 = .ok (.iconst 0, 1) := by decide +kernel
theorem dX11_without_27 : decode cX11_without 27 = .ok (.iastore, 1) := by decide +kernel
theorem dX11_without_28 : decode cX11_without 28 = .ok (.aload_n 0, 1) := by decide +kernel
theorem dX11_without_29 : decode cX11_without 29 = .ok (.iconst 1, 1) := by decide +kernel
theorem dX11_without_30 : decode cX11_without 30 = .ok (.invokevirtual 544, 3) := by decide +kernel
theorem dX11_without_33 : decode cX11_without 33 = .ok (.aload_n 0, 1) := by decide +kernel
theorem dX11_without_34 : decode cX11_without 34 = .ok (.iconst 1, 1) := by decide +kernel
theorem dX11_without_35 : decode cX11_without 35 = .ok (.iload_n 2, 1) := by decide +kernel
theorem dX11_without_36 : decode cX11_without 36 = .ok (.invokevirtual 550, 3) := by decide +kernel
theorem dX11_without_39 : decode cX11_without 39 = .ok (.iload_n 3, 1) := by decide +kernel
theorem dX11_without_40 : decode cX11_without 40 = .ok (.isub, 1) := by decide +kernel
theorem dX11_without_41 : decode cX11_without 41 = .ok (.ireturn, 1) := by decide +kernel
set_option maxRecDepth 100000 in
set_option maxHeartbeats 4000000 in
theorem X11_without_ct {N : Nat} {l0 : Nat} {l1 : Int} {l2 : Int} {m : Mem} {out : (Int × Mem)} (h : X11_without N l0 l1 l2 m = some out) : shK l0 = 11 + 10 ∧ CT yX11_without cX11_without 4 (some .int) 9 0 0 [vR l0, vI l1, vI l2] 312 m (some (vI out.1)) 312 out.2 := by
  unfold X11_without at h
  obtain ⟨hK, h⟩ := ite_some h
  have hlv : 8 < 9 := by decide
  refine ⟨hK, CT.of (by decide +kernel) rfl (Nat.le_of_ble_eq_true rfl) (ls := [some (vR l0), some (vI l1), some (vI l2), none]) rfl fun g w C _ => ?_⟩
  refine j_aload_n C dX11_without_0 rfl ?_
  refine j_iconst C dX11_without_1 rfl ?_
  obtain ⟨p1, ep1, h⟩ := bind_some h
  have qp1 := X11_nightAsTold_ct ep1
  refine j_cVV C dX11_without_2 vl_X11_544 CF11 rfl qp1.1 qp1.2 (by omega) rfl rfl (Nat.le_of_ble_eq_true rfl) ?_
  refine j_aload_n C dX11_without_5 rfl ?_
  refine j_iconst C dX11_without_6 rfl ?_
  refine j_iload_n C dX11_without_7 rfl ?_
  obtain ⟨p2, ep2, h⟩ := bind_some h
  have qp2 := X11_comes_ct ep2
  refine j_cVI C dX11_without_8 vl_X11_550 CF11 rfl qp2.1 qp2.2 (by omega) rfl rfl (Nat.le_of_ble_eq_true rfl) ?_
  refine j_istore_n (ls' := [some (vR _), some (vI _), some (vI _), some (vI _)]) C dX11_without_11 (by decide) rfl ?_
  refine j_aload_n C dX11_without_12 rfl ?_
  refine j_iconst C dX11_without_13 rfl ?_
  refine j_iconst C dX11_without_14 rfl ?_
  obtain ⟨p3, ep3, h⟩ := bind_some h
  have qp3 := X11_copies_ct ep3
  refine j_cVV C dX11_without_15 vl_X11_448 CF11 rfl qp3.1 qp3.2 (by omega) rfl rfl (Nat.le_of_ble_eq_true rfl) ?_
  refine j_aload_n C dX11_without_18 rfl ?_
  refine j_getR C dX11_without_19 CF11 (by decide) fl_X11_167 rfl rfl h (fun t4 h => ?_)
  refine j_bipush C dX11_without_22 rfl ?_
  refine j_iload_n C dX11_without_24 rfl ?_
  refine j_iadd C dX11_without_25 ?_
  refine j_iconst C dX11_without_26 rfl ?_
  refine j_iast C dX11_without_27 rfl h (fun m5 h => ?_)
  refine j_aload_n C dX11_without_28 rfl ?_
  refine j_iconst C dX11_without_29 rfl ?_
  obtain ⟨p6, ep6, h⟩ := bind_some h
  have qp6 := X11_nightAsTold_ct ep6
  refine j_cVV C dX11_without_30 vl_X11_544 CF11 rfl qp6.1 qp6.2 (by omega) rfl rfl (Nat.le_of_ble_eq_true rfl) ?_
  refine j_aload_n C dX11_without_33 rfl ?_
  refine j_iconst C dX11_without_34 rfl ?_
  refine j_iload_n C dX11_without_35 rfl ?_
  obtain ⟨p7, ep7, h⟩ := bind_some h
  have qp7 := X11_comes_ct ep7
  refine j_cVI C dX11_without_36 vl_X11_550 CF11 rfl qp7.1 qp7.2 (by omega) rfl rfl (Nat.le_of_ble_eq_true rfl) ?_
  refine j_iload_n C dX11_without_39 rfl ?_
  refine j_isub C dX11_without_40 ?_
  have e := Option.some.inj h
  subst e
  exact j_ri C dX11_without_41 rfl rfl rfl
theorem dX11_best_0 : decode cX11_best 0 = .ok (.aload_n 0, 1) := by decide +kernel
theorem dX11_best_1 : decode cX11_best 1 = .ok (.iload_n 1, 1) := by decide +kernel
theorem dX11_best_2 : decode cX11_best 2 = .ok (.invokevirtual 547, 3) := by decide +kernel
theorem dX11_best_5 : decode cX11_best 5 = .ok (.ifCond .ne 5, 3) := by decide +kernel
theorem dX11_best_8 : decode cX11_best 8 = .ok (.iconst (-1), 1) := by decide +kernel
theorem dX11_best_9 : decode cX11_best 9 = .ok (.ireturn, 1) := by decide +kernel
theorem dX11_best_10 : decode cX11_best 10 = .ok (.iconst (-1), 1) := by decide +kernel
theorem dX11_best_11 : decode cX11_best 11 = .ok (.istore_n 2, 1) := by decide +kernel
theorem dX11_best_12 : decode cX11_best 12 = .ok (.iconst 0, 1) := by decide +kernel
theorem dX11_best_13 : decode cX11_best 13 = .ok (.istore_n 3, 1) := by decide +kernel
theorem dX11_best_14 : decode cX11_best 14 = .ok (.iconst 0, 1) := by decide +kernel
theorem dX11_best_15 : decode cX11_best 15 = .ok (.istore 4, 2) := by decide +kernel
theorem dX11_best_17 : decode cX11_best 17 = .ok (.iload 4, 2) := by decide +kernel
theorem dX11_best_19 : decode cX11_best 19 = .ok (.aload_n 0, 1) := by decide +kernel
theorem dX11_best_20 : decode cX11_best 20 = .ok (.invokevirtual 438, 3) := by decide +kernel
theorem dX11_best_23 : decode cX11_best 23 = .ok (.if_icmp .ge 47, 3) := by decide +kernel
theorem dX11_best_26 : decode cX11_best 26 = .ok (.aload_n 0, 1) := by decide +kernel
theorem dX11_best_27 : decode cX11_best 27 = .ok (.iconst 0, 1) := by decide +kernel
theorem dX11_best_28 : decode cX11_best 28 = .ok (.iload 4, 2) := by decide +kernel
theorem dX11_best_30 : decode cX11_best 30 = .ok (.invokevirtual 451, 3) := by decide +kernel
theorem dX11_best_33 : decode cX11_best 33 = .ok (.ifCond .eq 13, 3) := by decide +kernel
theorem dX11_best_36 : decode cX11_best 36 = .ok (.aload_n 0, 1) := by decide +kernel
theorem dX11_best_37 : decode cX11_best 37 = .ok (.iload 4, 2) := by decide +kernel
theorem dX11_best_39 : decode cX11_best 39 = .ok (.iload_n 1, 1) := by decide +kernel
theorem dX11_best_40 : decode cX11_best 40 = .ok (.invokevirtual 595, 3) := by decide +kernel
theorem dX11_best_43 : decode cX11_best 43 = .ok (.goto 4, 3) := by decide +kernel
theorem dX11_best_46 : decode cX11_best 46 = .ok (.iconst 0, 1) := by decide +kernel
theorem dX11_best_47 : decode cX11_best 47 = .ok (.istore 5, 2) := by decide +kernel
theorem dX11_best_49 : decode cX11_best 49 = .ok (.iload 5, 2) := by decide +kernel
theorem dX11_best_51 : decode cX11_best 51 = .ok (.iload_n 3, 1) := by decide +kernel
theorem dX11_best_52 : decode cX11_best 52 = .ok (.if_icmp .gt 6, 3) := by decide +kernel
theorem dX11_best_55 : decode cX11_best 55 = .ok (.goto 9, 3) := by decide +kernel
theorem dX11_best_58 : decode cX11_best 58 = .ok (.iload 5, 2) := by decide +kernel
theorem dX11_best_60 : decode cX11_best 60 = .ok (.istore_n 3, 1) := by decide +kernel
theorem dX11_best_61 : decode cX11_best 61 = .ok (.iload 4, 2) := by decide +kernel
theorem dX11_best_63 : decode cX11_best 63 = .ok (.istore_n 2, 1) := by decide +kernel
theorem dX11_best_64 : decode cX11_best 64 = .ok (.iinc 4 1, 3) := by decide +kernel
theorem dX11_best_67 : decode cX11_best 67 = .ok (.goto (-50), 3) := by decide +kernel
theorem dX11_best_70 : decode cX11_best 70 = .ok (.iload_n 2, 1) := by decide +kernel
theorem dX11_best_71 : decode cX11_best 71 = .ok (.ireturn, 1) := by decide +kernel
set_option maxRecDepth 100000 in
set_option maxHeartbeats 4000000 in
theorem X11_best_J64_ok {g : Gm} {w : Wd} (C : Cx g w RX11 cX11_best 6 (some .int)) {lv : Nat} (hlv : 9 < lv) {N : Nat} {r17 : Nat → Int → Int → Int → Int → Mem → Option (Int × Mem) } {l0 : Nat} {l1 : Int} {l2 : Int} {l3 : Int} {l4 : Int} {m : Mem} {out : (Int × Mem)} (hr17 : ∀ l0 l1 l2 l3 l4 m, r17 l0 l1 l2 l3 l4 m = some out → Jd g w 6 (rmL lv 0 0) (Qm g w (some (vI out.1)) out.2) 17 [some (vR l0), some (vI l1), some (vI l2), some (vI l3), some (vI l4), none] [] 312 m 0 0) (h : X11_best_J64 N r17 l0 l1 l2 l3 l4 m = some out) : Jd g w 6 (rmL lv 0 0) (Qm g w (some (vI out.1)) out.2) 64 [some (vR l0), some (vI l1), some (vI l2), some (vI l3), some (vI l4), none] [] 312 m 0 0 := by
  unfold X11_best_J64 at h
  refine j_iinc (ls' := [some (vR _), some (vI _), some (vI _), some (vI _), some (vI _), none]) C dX11_best_64 rfl (by decide) rfl ?_
  refine j_goto C 17 dX11_best_67 rfl ?_
  exact hr17 _ _ _ _ _ _ h
set_option maxRecDepth 100000 in
set_option maxHeartbeats 4000000 in
theorem X11_best_J47_ok {g : Gm} {w : Wd} (C : Cx g w RX11 cX11_best 6 (some .int)) {lv : Nat} (hlv : 9 < lv) {N : Nat} {r17 : Nat → Int → Int → Int → Int → Mem → Option (Int × Mem) } {l0 : Nat} {l1 : Int} {l2 : Int} {l3 : Int} {l4 : Int} {s0 : Int} {m : Mem} {out : (Int × Mem)} (hr17 : ∀ l0 l1 l2 l3 l4 m, r17 l0 l1 l2 l3 l4 m = some out → Jd g w 6 (rmL lv 0 0) (Qm g w (some (vI out.1)) out.2) 17 [some (vR l0), some (vI l1), some (vI l2), some (vI l3), some (vI l4), none] [] 312 m 0 0) (h : X11_best_J47 N r17 l0 l1 l2 l3 l4 s0 m = some out) : Jd g w 6 (rmL lv 0 0) (Qm g w (some (vI out.1)) out.2) 47 [some (vR l0), some (vI l1), some (vI l2), some (vI l3), some (vI l4), none] [vI s0] 312 m 0 0 := by
  unfold X11_best_J47 at h
  refine j_istore (ls' := [some (vR _), some (vI _), some (vI _), some (vI _), some (vI _), some (vI _)]) C dX11_best_47 (by decide) rfl ?_
  refine j_iload C dX11_best_49 rfl ?_
  refine j_iload_n C dX11_best_51 rfl ?_
  refine j_icmp_gt C 58 dX11_best_52 rfl h (fun c4 h => ?_) (fun c4 h => ?_)
  · refine j_iload C dX11_best_58 rfl ?_
    refine j_istore_n (ls' := [some (vR _), some (vI _), some (vI _), some (vI _), some (vI _), some (vI _)]) C dX11_best_60 (by decide) rfl ?_
    refine j_iload C dX11_best_61 rfl ?_
    refine j_istore_n (ls' := [some (vR _), some (vI _), some (vI _), some (vI _), some (vI _), some (vI _)]) C dX11_best_63 (by decide) rfl ?_
    refine j_mask [true, true, true, true, true, false] (ls' := [some (vR _), some (vI _), some (vI _), some (vI _), some (vI _), none]) rfl ?_
    exact X11_best_J64_ok C hlv hr17 h
  · refine j_goto C 64 dX11_best_55 rfl ?_
    refine j_mask [true, true, true, true, true, false] (ls' := [some (vR _), some (vI _), some (vI _), some (vI _), some (vI _), none]) rfl ?_
    exact X11_best_J64_ok C hlv hr17 h
set_option maxRecDepth 100000 in
set_option maxHeartbeats 4000000 in
theorem X11_best_L17_bok {g : Gm} {w : Wd} (C : Cx g w RX11 cX11_best 6 (some .int)) {lv : Nat} (hlv : 9 < lv) {N : Nat} {r17 : Nat → Int → Int → Int → Int → Mem → Option (Int × Mem)} {l0 : Nat} {l1 : Int} {l2 : Int} {l3 : Int} {l4 : Int} {m : Mem} {out : (Int × Mem)} (hr17 : ∀ l0 l1 l2 l3 l4 m, r17 l0 l1 l2 l3 l4 m = some out → Jd g w 6 (rmL lv 0 0) (Qm g w (some (vI out.1)) out.2) 17 [some (vR l0), some (vI l1), some (vI l2), some (vI l3), some (vI l4), none] [] 312 m 0 0) (h : X11_best_L17_b N r17 l0 l1 l2 l3 l4 m = some out) : Jd g w 6 (rmL lv 0 0) (Qm g w (some (vI out.1)) out.2) 17 [some (vR l0), some (vI l1), some (vI l2), some (vI l3), some (vI l4), none] [] 312 m 0 0 := by
  unfold X11_best_L17_b at h
  refine j_iload C dX11_best_17 rfl ?_
  refine j_aload_n C dX11_best_19 rfl ?_
  obtain ⟨p2, ep2, h⟩ := bind_some h
  have qp2 := X11_cells_ct ep2
  refine j_cVI C dX11_best_20 vl_X11_438 CF11 rfl qp2.1 qp2.2 (by omega) rfl rfl (Nat.le_of_ble_eq_true rfl) ?_
  refine j_icmp_ge C 70 dX11_best_23 rfl h (fun c7 h => ?_) (fun c7 h => ?_)
  · refine j_iload_n C dX11_best_70 rfl ?_
    have e := Option.some.inj h
    subst e
    exact j_ri C dX11_best_71 rfl rfl rfl
  · refine j_aload_n C dX11_best_26 rfl ?_
    refine j_iconst C dX11_best_27 rfl ?_
    refine j_iload C dX11_best_28 rfl ?_
    obtain ⟨p3, ep3, h⟩ := bind_some h
    have qp3 := X11_isWall_ct ep3
    refine j_cVI C dX11_best_30 vl_X11_451 CF11 rfl qp3.1 qp3.2 (by omega) rfl rfl (Nat.le_of_ble_eq_true rfl) ?_
    refine j_if_eq C 46 dX11_best_33 rfl h (fun c6 h => ?_) (fun c6 h => ?_)
    · refine j_iconst C dX11_best_46 rfl ?_
      exact X11_best_J47_ok C hlv hr17 h
    · refine j_aload_n C dX11_best_36 rfl ?_
      refine j_iload C dX11_best_37 rfl ?_
      refine j_iload_n C dX11_best_39 rfl ?_
      obtain ⟨p5, ep5, h⟩ := bind_some h
      have qp5 := X11_without_ct ep5
      refine j_cVI C dX11_best_40 vl_X11_595 CF11 rfl qp5.1 qp5.2 (by omega) rfl rfl (Nat.le_of_ble_eq_true rfl) ?_
      refine j_goto C 47 dX11_best_43 rfl ?_
      exact X11_best_J47_ok C hlv hr17 h
set_option maxRecDepth 100000 in
set_option maxHeartbeats 4000000 in
theorem X11_best_L17_ok {g : Gm} {w : Wd} (C : Cx g w RX11 cX11_best 6 (some .int)) {lv : Nat} (hlv : 9 < lv) {N : Nat} {out : (Int × Mem)} (f : Nat) : ∀ {l0 : Nat} {l1 : Int} {l2 : Int} {l3 : Int} {l4 : Int} {m : Mem}, X11_best_L17 N f l0 l1 l2 l3 l4 m = some out → Jd g w 6 (rmL lv 0 0) (Qm g w (some (vI out.1)) out.2) 17 [some (vR l0), some (vI l1), some (vI l2), some (vI l3), some (vI l4), none] [] 312 m 0 0 := by
  induction f with
  | zero => intro l0 l1 l2 l3 l4 m h; exact none_ne (α := (Int × Mem)) h
  | succ f ih => intro l0 l1 l2 l3 l4 m h; exact X11_best_L17_bok C hlv (fun l0 l1 l2 l3 l4 m h => ih h) h
set_option maxRecDepth 100000 in
set_option maxHeartbeats 4000000 in
theorem X11_best_ct {N : Nat} {l0 : Nat} {l1 : Int} {m : Mem} {out : (Int × Mem)} (h : X11_best N l0 l1 m = some out) : shK l0 = 11 + 10 ∧ CT yX11_best cX11_best 6 (some .int) 10 0 0 [vR l0, vI l1] 312 m (some (vI out.1)) 312 out.2 := by
  unfold X11_best at h
  obtain ⟨hK, h⟩ := ite_some h
  have hlv : 9 < 10 := by decide
  refine ⟨hK, CT.of (by decide +kernel) rfl (Nat.le_of_ble_eq_true rfl) (ls := [some (vR l0), some (vI l1), none, none, none, none]) rfl fun g w C _ => ?_⟩
  refine j_aload_n C dX11_best_0 rfl ?_
  refine j_iload_n C dX11_best_1 rfl ?_
  obtain ⟨p1, ep1, h⟩ := bind_some h
  have qp1 := X11_isCistern_ct ep1
  refine j_cVI C dX11_best_2 vl_X11_547 CF11 rfl qp1.1 qp1.2 (by omega) rfl rfl (Nat.le_of_ble_eq_true rfl) ?_
  refine j_if_ne C 10 dX11_best_5 rfl h (fun c8 h => ?_) (fun c8 h => ?_)
  · refine j_iconst C dX11_best_10 rfl ?_
    refine j_istore_n (ls' := [some (vR _), some (vI _), some (vI _), none, none, none]) C dX11_best_11 (by decide) rfl ?_
    refine j_iconst C dX11_best_12 rfl ?_
    refine j_istore_n (ls' := [some (vR _), some (vI _), some (vI _), some (vI _), none, none]) C dX11_best_13 (by decide) rfl ?_
    refine j_iconst C dX11_best_14 rfl ?_
    refine j_istore (ls' := [some (vR _), some (vI _), some (vI _), some (vI _), some (vI _), none]) C dX11_best_15 (by decide) rfl ?_
    exact X11_best_L17_ok C hlv N h
  · refine j_iconst C dX11_best_8 rfl ?_
    have e := Option.some.inj h
    subst e
    exact j_ri C dX11_best_9 rfl rfl rfl
theorem dX11_bits_0 : decode cX11_bits 0 = .ok (.iconst 0, 1) := by decide +kernel
theorem dX11_bits_1 : decode cX11_bits 1 = .ok (.istore_n 1, 1) := by decide +kernel
theorem dX11_bits_2 : decode cX11_bits 2 = .ok (.iload_n 0, 1) := by decide +kernel
theorem dX11_bits_3 : decode cX11_bits 3 = .ok (.istore_n 2, 1) := by decide +kernel
theorem dX11_bits_4 : decode cX11_bits 4 = .ok (.iload_n 2, 1) := by decide +kernel
theorem dX11_bits_5 : decode cX11_bits 5 = .ok (.ifCond .eq 15, 3) := by decide +kernel
theorem dX11_bits_8 : decode cX11_bits 8 = .ok (.iinc 1 1, 3) := by decide +kernel
theorem dX11_bits_11 : decode cX11_bits 11 = .ok (.iload_n 2, 1) := by decide +kernel
theorem dX11_bits_12 : decode cX11_bits 12 = .ok (.iload_n 2, 1) := by decide +kernel
theorem dX11_bits_13 : decode cX11_bits 13 = .ok (.iconst 1, 1) := by decide +kernel
theorem dX11_bits_14 : decode cX11_bits 14 = .ok (.isub, 1) := by decide +kernel
theorem dX11_bits_15 : decode cX11_bits 15 = .ok (.iand, 1) := by decide +kernel
theorem dX11_bits_16 : decode cX11_bits 16 = .ok (.istore_n 2, 1) := by decide +kernel
theorem dX11_bits_17 : decode cX11_bits 17 = .ok (.goto (-13), 3) := by decide +kernel
theorem dX11_bits_20 : decode cX11_bits 20 = .ok (.iload_n 1, 1) := by decide +kernel
theorem dX11_bits_21 : decode cX11_bits 21 = .ok (.ireturn, 1) := by decide +kernel
set_option maxRecDepth 100000 in
set_option maxHeartbeats 4000000 in
theorem X11_bits_L4_bok {g : Gm} {w : Wd} (C : Cx g w RX11 cX11_bits 3 (some .int)) {lv : Nat} (hlv : 0 < lv) {N : Nat} {r4 : Int → Int → Option Int} {l1 : Int} {l2 : Int} {m : Mem} {out : Int} (hr4 : ∀ l1 l2, r4 l1 l2 = some out → Jd g w 3 (rmL lv 0 0) (Qm g w (some (vI out)) m) 4 [none, some (vI l1), some (vI l2)] [] 312 m 0 0) (h : X11_bits_L4_b N m r4 l1 l2 = some out) : Jd g w 3 (rmL lv 0 0) (Qm g w (some (vI out)) m) 4 [none, some (vI l1), some (vI l2)] [] 312 m 0 0 := by
  unfold X11_bits_L4_b at h
  refine j_iload_n C dX11_bits_4 rfl ?_
  refine j_if_eq C 20 dX11_bits_5 rfl h (fun c1 h => ?_) (fun c1 h => ?_)
  · refine j_iload_n C dX11_bits_20 rfl ?_
    exact j_ri C dX11_bits_21 rfl (Option.some.inj h).symm rfl
  · refine j_iinc (ls' := [none, some (vI _), some (vI _)]) C dX11_bits_8 rfl (by decide) rfl ?_
    refine j_iload_n C dX11_bits_11 rfl ?_
    refine j_iload_n C dX11_bits_12 rfl ?_
    refine j_iconst C dX11_bits_13 rfl ?_
    refine j_isub C dX11_bits_14 ?_
    refine j_iand C dX11_bits_15 ?_
    refine j_istore_n (ls' := [none, some (vI _), some (vI _)]) C dX11_bits_16 (by decide) rfl ?_
    refine j_goto C 4 dX11_bits_17 rfl ?_
    exact hr4 _ _ h
set_option maxRecDepth 100000 in
set_option maxHeartbeats 4000000 in
theorem X11_bits_L4_ok {g : Gm} {w : Wd} (C : Cx g w RX11 cX11_bits 3 (some .int)) {lv : Nat} (hlv : 0 < lv) {N : Nat} {m : Mem} {out : Int} (f : Nat) : ∀ {l1 : Int} {l2 : Int}, X11_bits_L4 N m f l1 l2 = some out → Jd g w 3 (rmL lv 0 0) (Qm g w (some (vI out)) m) 4 [none, some (vI l1), some (vI l2)] [] 312 m 0 0 := by
  induction f with
  | zero => intro l1 l2 h; exact none_ne (α := Int) h
  | succ f ih => intro l1 l2 h; exact X11_bits_L4_bok C hlv (fun l1 l2 h => ih h) h
set_option maxRecDepth 100000 in
set_option maxHeartbeats 4000000 in
theorem X11_bits_ct {N : Nat} {l0 : Int} {m : Mem} {out : Int} (h : X11_bits N l0 m = some out) : CT yX11_bits cX11_bits 3 (some .int) 1 0 0 [vI l0] 312 m (some (vI out)) 312 m := by
  unfold X11_bits at h
  have hlv : 0 < 1 := by decide
  refine CT.of (by decide +kernel) rfl (Nat.le_of_ble_eq_true rfl) (ls := [some (vI l0), none, none]) rfl fun g w C _ => ?_
  refine j_iconst C dX11_bits_0 rfl ?_
  refine j_istore_n (ls' := [some (vI _), some (vI _), none]) C dX11_bits_1 (by decide) rfl ?_
  refine j_iload_n C dX11_bits_2 rfl ?_
  refine j_istore_n (ls' := [some (vI _), some (vI _), some (vI _)]) C dX11_bits_3 (by decide) rfl ?_
  refine j_mask [false, true, true] (ls' := [none, some (vI _), some (vI _)]) rfl ?_
  exact X11_bits_L4_ok C hlv N h
theorem dX11_blame_0 : decode cX11_blame 0 = .ok (.aload_n 0, 1) := by decide +kernel
theorem dX11_blame_1 : decode cX11_blame 1 = .ok (.getfield 36, 3) := by decide +kernel
theorem dX11_blame_4 : decode cX11_blame 4 = .ok (.ifCond .le 4, 3) := by decide +kernel
theorem dX11_blame_7 : decode cX11_blame 7 = .ok (.return_, 1) := by decide +kernel
theorem dX11_blame_8 : decode cX11_blame 8 = .ok (.aload_n 0, 1) := by decide +kernel
theorem dX11_blame_9 : decode cX11_blame 9 = .ok (.iload_n 1, 1) := by decide +kernel
theorem dX11_blame_10 : decode cX11_blame 10 = .ok (.putfield 36, 3) := by decide +kernel
theorem dX11_blame_13 : decode cX11_blame 13 = .ok (.aload_n 0, 1) := by decide +kernel
theorem dX11_blame_14 : decode cX11_blame 14 = .ok (.iload_n 2, 1) := by decide +kernel
theorem dX11_blame_15 : decode cX11_blame 15 = .ok (.putfield 39, 3) := by decide +kernel
theorem dX11_blame_18 : decode cX11_blame 18 = .ok (.return_, 1) := by decide +kernel
set_option maxRecDepth 100000 in
set_option maxHeartbeats 4000000 in
theorem X11_blame_ct {l0 : Nat} {l1 : Int} {l2 : Int} {m : Mem} {out : Mem} (h : X11_blame l0 l1 l2 m = some out) : shK l0 = 11 + 10 ∧ CT yX11_blame cX11_blame 3 none 1 0 0 [vR l0, vI l1, vI l2] 312 m none 312 out := by
  unfold X11_blame at h
  obtain ⟨hK, h⟩ := ite_some h
  have hlv : 0 < 1 := by decide
  refine ⟨hK, CT.of (by decide +kernel) rfl (Nat.le_of_ble_eq_true rfl) (ls := [some (vR l0), some (vI l1), some (vI l2)]) rfl fun g w C _ => ?_⟩
  refine j_aload_n C dX11_blame_0 rfl ?_
  refine j_getI C dX11_blame_1 CF11 (by decide) fl_X11_36 rfl rfl h (fun t1 h => ?_)
  refine j_if_le C 8 dX11_blame_4 rfl h (fun c4 h => ?_) (fun c4 h => ?_)
  · refine j_aload_n C dX11_blame_8 rfl ?_
    refine j_iload_n C dX11_blame_9 rfl ?_
    refine j_putI C dX11_blame_10 CF11 (by decide) fl_X11_36 rfl rfl rfl rfl h (fun m2 h => ?_)
    refine j_aload_n C dX11_blame_13 rfl ?_
    refine j_iload_n C dX11_blame_14 rfl ?_
    refine j_putI C dX11_blame_15 CF11 (by decide) fl_X11_39 rfl rfl rfl rfl h (fun m3 h => ?_)
    have e := Option.some.inj h
    subst e
    exact j_rv C dX11_blame_18 rfl rfl
  · have e := Option.some.inj h
    subst e
    exact j_rv C dX11_blame_7 rfl rfl
theorem dX11_cameIn_0 : decode cX11_cameIn 0 = .ok (.iconst 0, 1) := by decide +kernel
theorem dX11_cameIn_1 : decode cX11_cameIn 1 = .ok (.istore_n 2, 1) := by decide +kernel
theorem dX11_cameIn_2 : decode cX11_cameIn 2 = .ok (.iconst 0, 1) := by decide +kernel
theorem dX11_cameIn_3 : decode cX11_cameIn 3 = .ok (.istore_n 3, 1) := by decide +kernel
theorem dX11_cameIn_4 : decode cX11_cameIn 4 = .ok (.iload_n 3, 1) := by decide +kernel
theorem dX11_cameIn_5 : decode cX11_cameIn 5 = .ok (.aload_n 0, 1) := by decide +kernel
theorem dX11_cameIn_6 : decode cX11_cameIn 6 = .ok (.getfield 81, 3) := by decide +kernel
theorem dX11_cameIn_9 : decode cX11_cameIn 9 = .ok (.aload_n 0, 1) := by decide +kernel
theorem dX11_cameIn_10 : decode cX11_cameIn 10 = .ok (.getfield 51, 3) := by decide +kernel
theorem dX11_cameIn_13 : decode cX11_cameIn 13 = .ok (.iaload, 1) := by decide +kernel
theorem dX11_cameIn_14 : decode cX11_cameIn 14 = .ok (.if_icmp .ge 23, 3) := by decide +kernel
theorem dX11_cameIn_17 : decode cX11_cameIn 17 = .ok (.iload_n 2, 1) := by decide +kernel
theorem dX11_cameIn_18 : decode cX11_cameIn 18 = .ok (.aload_n 0, 1) := by decide +kernel
theorem dX11_cameIn_19 : decode cX11_cameIn 19 = .ok (.getfield 206, 3) := by decide +kernel
theorem dX11_cameIn_22 : decode cX11_cameIn 22 = .ok (.bipush 10, 2) := by decide +kernel
theorem dX11_cameIn_24 : decode cX11_cameIn 24 = .ok (.iload_n 1, 1) := by decide +kernel
theorem dX11_cameIn_25 : decode cX11_cameIn 25 = .ok (.imul, 1) := by decide +kernel
theorem dX11_cameIn_26 : decode cX11_cameIn 26 = .ok (.iload_n 3, 1) := by decide +kernel
theorem dX11_cameIn_27 : decode cX11_cameIn 27 = .ok (.iadd, 1) := by decide +kernel
theorem dX11_cameIn_28 : decode cX11_cameIn 28 = .ok (.iaload, 1) := by decide +kernel
theorem dX11_cameIn_29 : decode cX11_cameIn 29 = .ok (.iadd, 1) := by decide +kernel
theorem dX11_cameIn_30 : decode cX11_cameIn 30 = .ok (.istore_n 2, 1) := by decide +kernel
theorem dX11_cameIn_31 : decode cX11_cameIn 31 = .ok (.iinc 3 1, 3) := by decide +kernel
theorem dX11_cameIn_34 : decode cX11_cameIn 34 = .ok (.goto (-30), 3) := by decide +kernel
theorem dX11_cameIn_37 : decode cX11_cameIn 37 = .ok (.iload_n 2, 1) := by decide +kernel
theorem dX11_cameIn_38 : decode cX11_cameIn 38 = .ok (.ireturn, 1) := by decide +kernel
set_option maxRecDepth 100000 in
set_option maxHeartbeats 4000000 in
theorem X11_cameIn_L4_bok {g : Gm} {w : Wd} (C : Cx g w RX11 cX11_cameIn 4 (some .int)) {lv : Nat} (hlv : 0 < lv) {N : Nat} {r4 : Nat → Int → Int → Int → Option Int} {l0 : Nat} {l1 : Int} {l2 : Int} {l3 : Int} {m : Mem} {out : Int} (hr4 : ∀ l0 l1 l2 l3, r4 l0 l1 l2 l3 = some out → Jd g w 4 (rmL lv 0 0) (Qm g w (some (vI out)) m) 4 [some (vR l0), some (vI l1), some (vI l2), some (vI l3)] [] 312 m 0 0) (h : X11_cameIn_L4_b N m r4 l0 l1 l2 l3 = some out) : Jd g w 4 (rmL lv 0 0) (Qm g w (some (vI out)) m) 4 [some (vR l0), some (vI l1), some (vI l2), some (vI l3)] [] 312 m 0 0 := by
  unfold X11_cameIn_L4_b at h
  refine j_iload_n C dX11_cameIn_4 rfl ?_
  refine j_aload_n C dX11_cameIn_5 rfl ?_
  refine j_getR C dX11_cameIn_6 CF11 (by decide) fl_X11_81 rfl rfl h (fun t1 h => ?_)
  refine j_aload_n C dX11_cameIn_9 rfl ?_
  refine j_getI C dX11_cameIn_10 CF11 (by decide) fl_X11_51 rfl rfl h (fun t2 h => ?_)
  refine j_iald C dX11_cameIn_13 rfl h (fun t3 h => ?_)
  refine j_icmp_ge C 37 dX11_cameIn_14 rfl h (fun c6 h => ?_) (fun c6 h => ?_)
  · refine j_iload_n C dX11_cameIn_37 rfl ?_
    exact j_ri C dX11_cameIn_38 rfl (Option.some.inj h).symm rfl
  · refine j_iload_n C dX11_cameIn_17 rfl ?_
    refine j_aload_n C dX11_cameIn_18 rfl ?_
    refine j_getR C dX11_cameIn_19 CF11 (by decide) fl_X11_206 rfl rfl h (fun t4 h => ?_)
    refine j_bipush C dX11_cameIn_22 rfl ?_
    refine j_iload_n C dX11_cameIn_24 rfl ?_
    refine j_imul C dX11_cameIn_25 ?_
    refine j_iload_n C dX11_cameIn_26 rfl ?_
    refine j_iadd C dX11_cameIn_27 ?_
    refine j_iald C dX11_cameIn_28 rfl h (fun t5 h => ?_)
    refine j_iadd C dX11_cameIn_29 ?_
    refine j_istore_n (ls' := [some (vR _), some (vI _), some (vI _), some (vI _)]) C dX11_cameIn_30 (by decide) rfl ?_
    refine j_iinc (ls' := [some (vR _), some (vI _), some (vI _), some (vI _)]) C dX11_cameIn_31 rfl (by decide) rfl ?_
    refine j_goto C 4 dX11_cameIn_34 rfl ?_
    exact hr4 _ _ _ _ h
set_option maxRecDepth 100000 in
set_option maxHeartbeats 4000000 in
theorem X11_cameIn_L4_ok {g : Gm} {w : Wd} (C : Cx g w RX11 cX11_cameIn 4 (some .int)) {lv : Nat} (hlv : 0 < lv) {N : Nat} {m : Mem} {out : Int} (f : Nat) : ∀ {l0 : Nat} {l1 : Int} {l2 : Int} {l3 : Int}, X11_cameIn_L4 N m f l0 l1 l2 l3 = some out → Jd g w 4 (rmL lv 0 0) (Qm g w (some (vI out)) m) 4 [some (vR l0), some (vI l1), some (vI l2), some (vI l3)] [] 312 m 0 0 := by
  induction f with
  | zero => intro l0 l1 l2 l3 h; exact none_ne (α := Int) h
  | succ f ih => intro l0 l1 l2 l3 h; exact X11_cameIn_L4_bok C hlv (fun l0 l1 l2 l3 h => ih h) h
set_option maxRecDepth 100000 in
set_option maxHeartbeats 4000000 in
theorem X11_cameIn_ct {N : Nat} {l0 : Nat} {l1 : Int} {m : Mem} {out : Int} (h : X11_cameIn N l0 l1 m = some out) : shK l0 = 11 + 10 ∧ CT yX11_cameIn cX11_cameIn 4 (some .int) 1 0 0 [vR l0, vI l1] 312 m (some (vI out)) 312 m := by
  unfold X11_cameIn at h
  obtain ⟨hK, h⟩ := ite_some h
  have hlv : 0 < 1 := by decide
  refine ⟨hK, CT.of (by decide +kernel) rfl (Nat.le_of_ble_eq_true rfl) (ls := [some (vR l0), some (vI l1), none, none]) rfl fun g w C _ => ?_⟩
  refine j_iconst C dX11_cameIn_0 rfl ?_
  refine j_istore_n (ls' := [some (vR _), some (vI _), some (vI _), none]) C dX11_cameIn_1 (by decide) rfl ?_
  refine j_iconst C dX11_cameIn_2 rfl ?_
  refine j_istore_n (ls' := [some (vR _), some (vI _), some (vI _), some (vI _)]) C dX11_cameIn_3 (by decide) rfl ?_
  exact X11_cameIn_L4_ok C hlv N h
theorem dX11_isCell_0 : decode cX11_isCell 0 = .ok (.iload_n 1, 1) := by decide +kernel
theorem dX11_isCell_1 : decode cX11_isCell 1 = .ok (.ifCond .lt 15, 3) := by decide +kernel
theorem dX11_isCell_4 : decode cX11_isCell 4 = .ok (.iload_n 1, 1) := by decide +kernel
theorem dX11_isCell_5 : decode cX11_isCell 5 = .ok (.aload_n 0, 1) := by decide +kernel
theorem dX11_isCell_6 : decode cX11_isCell 6 = .ok (.invokevirtual 438, 3) := by decide +kernel
theorem dX11_isCell_9 : decode cX11_isCell 9 = .ok (.if_icmp .ge 7, 3) := by decide +kernel
theorem dX11_isCell_12 : decode cX11_isCell 12 = .ok (.iconst 1, 1) := by decide +kernel
theorem dX11_isCell_13 : decode cX11_isCell 13 = .ok (.goto 4, 3) := by decide +kernel
theorem dX11_isCell_16 : decode cX11_isCell 16 = .ok (.iconst 0, 1) := by decide +kernel
theorem dX11_isCell_17 : decode cX11_isCell 17 = .ok (.ireturn, 1) := by decide +kernel
set_option maxRecDepth 100000 in
set_option maxHeartbeats 4000000 in
theorem X11_isCell_ct {l0 : Nat} {l1 : Int} {m : Mem} {out : Int} (h : X11_isCell l0 l1 m = some out) : shK l0 = 11 + 10 ∧ CT yX11_isCell cX11_isCell 2 (some .boolean) 2 0 0 [vR l0, vI l1] 312 m (some (vI out)) 312 m := by
  unfold X11_isCell at h
  obtain ⟨hK, h⟩ := ite_some h
  have hlv : 1 < 2 := by decide
  refine ⟨hK, CT.of (by decide +kernel) rfl (Nat.le_of_ble_eq_true rfl) (ls := [some (vR l0), some (vI l1)]) rfl fun g w C _ => ?_⟩
  refine j_iload_n C dX11_isCell_0 rfl ?_
  refine j_if_lt C 16 dX11_isCell_1 rfl h (fun c3 h => ?_) (fun c3 h => ?_)
  · refine j_iconst C dX11_isCell_16 rfl ?_
    exact j_rz C dX11_isCell_17 rfl (retZ_some h) rfl
  · refine j_iload_n C dX11_isCell_4 rfl ?_
    refine j_aload_n C dX11_isCell_5 rfl ?_
    obtain ⟨p1, ep1, h⟩ := bind_some h
    have qp1 := X11_cells_ct ep1
    refine j_cVI C dX11_isCell_6 vl_X11_438 CF11 rfl qp1.1 qp1.2 (by omega) rfl rfl (Nat.le_of_ble_eq_true rfl) ?_
    refine j_icmp_ge C 16 dX11_isCell_9 rfl h (fun c2 h => ?_) (fun c2 h => ?_)
    · refine j_iconst C dX11_isCell_16 rfl ?_
      exact j_rz C dX11_isCell_17 rfl (retZ_some h) rfl
    · refine j_iconst C dX11_isCell_12 rfl ?_
      refine j_goto C 17 dX11_isCell_13 rfl ?_
      exact j_rz C dX11_isCell_17 rfl (retZ_some h) rfl
theorem dX11_canBe_0 : decode cX11_canBe 0 = .ok (.iconst 0, 1) := by decide +kernel
theorem dX11_canBe_1 : decode cX11_canBe 1 = .ok (.istore_n 1, 1) := by decide +kernel
theorem dX11_canBe_2 : decode cX11_canBe 2 = .ok (.iload_n 1, 1) := by decide +kernel
theorem dX11_canBe_3 : decode cX11_canBe 3 = .ok (.aload_n 0, 1) := by decide +kernel
theorem dX11_canBe_4 : decode cX11_canBe 4 = .ok (.invokevirtual 438, 3) := by decide +kernel
theorem dX11_canBe_7 : decode cX11_canBe 7 = .ok (.if_icmp .ge 37, 3) := by decide +kernel
theorem dX11_canBe_10 : decode cX11_canBe 10 = .ok (.aload_n 0, 1) := by decide +kernel
theorem dX11_canBe_11 : decode cX11_canBe 11 = .ok (.iconst 1, 1) := by decide +kernel
theorem dX11_canBe_12 : decode cX11_canBe 12 = .ok (.iload_n 1, 1) := by decide +kernel
theorem dX11_canBe_13 : decode cX11_canBe 13 = .ok (.invokevirtual 451, 3) := by decide +kernel
theorem dX11_canBe_16 : decode cX11_canBe 16 = .ok (.ifCond .eq 22, 3) := by decide +kernel
theorem dX11_canBe_19 : decode cX11_canBe 19 = .ok (.aload_n 0, 1) := by decide +kernel
theorem dX11_canBe_20 : decode cX11_canBe 20 = .ok (.iload_n 1, 1) := by decide +kernel
theorem dX11_canBe_21 : decode cX11_canBe 21 = .ok (.invokevirtual 458, 3) := by decide +kernel
theorem dX11_canBe_24 : decode cX11_canBe 24 = .ok (.ifCond .ne 12, 3) := by decide +kernel
theorem dX11_canBe_27 : decode cX11_canBe 27 = .ok (.aload_n 0, 1) := by decide +kernel
theorem dX11_canBe_28 : decode cX11_canBe 28 = .ok (.iload_n 1, 1) := by decide +kernel
theorem dX11_canBe_29 : decode cX11_canBe 29 = .ok (.invokevirtual 464, 3) := by decide +kernel
theorem dX11_canBe_32 : decode cX11_canBe 32 = .ok (.iconst (-1), 1) := by decide +kernel
theorem dX11_canBe_33 : decode cX11_canBe 33 = .ok (.if_icmp .eq 5, 3) := by decide +kernel
theorem dX11_canBe_36 : decode cX11_canBe 36 = .ok (.iconst 0, 1) := by decide +kernel
theorem dX11_canBe_37 : decode cX11_canBe 37 = .ok (.ireturn, 1) := by decide +kernel
theorem dX11_canBe_38 : decode cX11_canBe 38 = .ok (.iinc 1 1, 3) := by decide +kernel
theorem dX11_canBe_41 : decode cX11_canBe 41 = .ok (.goto (-39), 3) := by decide +kernel
theorem dX11_canBe_44 : decode cX11_canBe 44 = .ok (.iconst 0, 1) := by decide +kernel
theorem dX11_canBe_45 : decode cX11_canBe 45 = .ok (.istore_n 1, 1) := by decide +kernel
theorem dX11_canBe_46 : decode cX11_canBe 46 = .ok (.iload_n 1, 1) := by decide +kernel
theorem dX11_canBe_47 : decode cX11_canBe 47 = .ok (.aload_n 0, 1) := by decide +kernel
theorem dX11_canBe_48 : decode cX11_canBe 48 = .ok (.getfield 81, 3) := by decide +kernel
theorem dX11_canBe_51 : decode cX11_canBe 51 = .ok (.aload_n 0, 1) := by decide +kernel
theorem dX11_canBe_52 : decode cX11_canBe 52 = .ok (.getfield 51, 3) := by decide +kernel
theorem dX11_canBe_55 : decode cX11_canBe 55 = .ok (.iaload, 1) := by decide +kernel
theorem dX11_canBe_56 : decode cX11_canBe 56 = .ok (.if_icmp .ge 65, 3) := by decide +kernel
theorem dX11_canBe_59 : decode cX11_canBe 59 = .ok (.aload_n 0, 1) := by decide +kernel
theorem dX11_canBe_60 : decode cX11_canBe 60 = .ok (.getfield 170, 3) := by decide +kernel
theorem dX11_canBe_63 : decode cX11_canBe 63 = .ok (.bipush 10, 2) := by decide +kernel
theorem dX11_canBe_65 : decode cX11_canBe 65 = .ok (.iload_n 1, 1) := by decide +kernel
theorem dX11_canBe_66 : decode cX11_canBe 66 = .ok (.iadd, 1) := by decide +kernel
theorem dX11_canBe_67 : decode cX11_canBe 67 = .ok (.iaload, 1) := by decide +kernel
theorem dX11_canBe_68 : decode cX11_canBe 68 = .ok (.istore_n 2, 1) := by decide +kernel
theorem dX11_canBe_69 : decode cX11_canBe 69 = .ok (.aload_n 0, 1) := by decide +kernel
theorem dX11_canBe_70 : decode cX11_canBe 70 = .ok (.iload_n 2, 1) := by decide +kernel
theorem dX11_canBe_71 : decode cX11_canBe 71 = .ok (.invokevirtual 532, 3) := by decide +kernel
theorem dX11_canBe_74 : decode cX11_canBe 74 = .ok (.ifCond .eq 39, 3) := by decide +kernel
theorem dX11_canBe_77 : decode cX11_canBe 77 = .ok (.aload_n 0, 1) := by decide +kernel
theorem dX11_canBe_78 : decode cX11_canBe 78 = .ok (.iconst 1, 1) := by decide +kernel
theorem dX11_canBe_79 : decode cX11_canBe 79 = .ok (.iload_n 2, 1) := by decide +kernel
theorem dX11_canBe_80 : decode cX11_canBe 80 = .ok (.invokevirtual 451, 3) := by decide +kernel
theorem dX11_canBe_83 : decode cX11_canBe 83 = .ok (.ifCond .ne 30, 3) := by decide +kernel
theorem dX11_canBe_86 : decode cX11_canBe 86 = .ok (.aload_n 0, 1) := by decide +kernel
theorem dX11_canBe_87 : decode cX11_canBe 87 = .ok (.iload_n 2, 1) := by decide +kernel
theorem dX11_canBe_88 : decode cX11_canBe 88 = .ok (.invokevirtual 458, 3) := by decide +kernel
theorem dX11_canBe_91 : decode cX11_canBe 91 = .ok (.ifCond .ne 22, 3) := by decide +kernel
theorem dX11_canBe_94 : decode cX11_canBe 94 = .ok (.aload_n 0, 1) := by decide +kernel
theorem dX11_canBe_95 : decode cX11_canBe 95 = .ok (.iload_n 2, 1) := by decide +kernel
theorem dX11_canBe_96 : decode cX11_canBe 96 = .ok (.invokevirtual 464, 3) := by decide +kernel
theorem dX11_canBe_99 : decode cX11_canBe 99 = .ok (.iconst (-1), 1) := by decide +kernel
theorem dX11_canBe_100 : decode cX11_canBe 100 = .ok (.if_icmp .ne 13, 3) := by decide +kernel
theorem dX11_canBe_103 : decode cX11_canBe 103 = .ok (.aload_n 0, 1) := by decide +kernel
theorem dX11_canBe_104 : decode cX11_canBe 104 = .ok (.iconst 1, 1) := by decide +kernel
theorem dX11_canBe_105 : decode cX11_canBe 105 = .ok (.iload_n 2, 1) := by decide +kernel
theorem dX11_canBe_106 : decode cX11_canBe 106 = .ok (.invokevirtual 461, 3) := by decide +kernel
theorem dX11_canBe_109 : decode cX11_canBe 109 = .ok (.iload_n 1, 1) := by decide +kernel
theorem dX11_canBe_110 : decode cX11_canBe 110 = .ok (.if_icmp .eq 5, 3) := by decide +kernel
theorem dX11_canBe_113 : decode cX11_canBe 113 = .ok (.iconst 0, 1) := by decide +kernel
theorem dX11_canBe_114 : decode cX11_canBe 114 = .ok (.ireturn, 1) := by decide +kernel
theorem dX11_canBe_115 : decode cX11_canBe 115 = .ok (.iinc 1 1, 3) := by decide +kernel
theorem dX11_canBe_118 : decode cX11_canBe 118 = .ok (.goto (-72), 3) := by decide +kernel
theorem dX11_canBe_121 : decode cX11_canBe 121 = .ok (.iconst 1, 1) := by decide +kernel
theorem dX11_canBe_122 : decode cX11_canBe 122 = .ok (.ireturn, 1) := by decide +kernel
set_option maxRecDepth 100000 in
set_option maxHeartbeats 4000000 in
theorem X11_canBe_J38_ok {g : Gm} {w : Wd} (C : Cx g w RX11 cX11_canBe 3 (some .boolean)) {lv : Nat} (hlv : 2 < lv) {N : Nat} {r2 : Nat → Int → Option Int } {l0 : Nat} {l1 : Int} {m : Mem} {out : Int} (hr2 : ∀ l0 l1, r2 l0 l1 = some out → Jd g w 3 (rmL lv 0 0) (Qm g w (some (vI out)) m) 2 [some (vR l0), some (vI l1), none] [] 312 m 0 0) (h : X11_canBe_J38 N r2 l0 l1 m = some out) : Jd g w 3 (rmL lv 0 0) (Qm g w (some (vI out)) m) 38 [some (vR l0), some (vI l1), none] [] 312 m 0 0 := by
  unfold X11_canBe_J38 at h
  refine j_iinc (ls' := [some (vR _), some (vI _), none]) C dX11_canBe_38 rfl (by decide) rfl ?_
  refine j_goto C 2 dX11_canBe_41 rfl ?_
  exact hr2 _ _ h
set_option maxRecDepth 100000 in
set_option maxHeartbeats 4000000 in
theorem X11_canBe_L2_bok {g : Gm} {w : Wd} (C : Cx g w RX11 cX11_canBe 3 (some .boolean)) {lv : Nat} (hlv : 2 < lv) {N : Nat} {k44 : Nat → Option Int} {r2 : Nat → Int → Option Int} {l0 : Nat} {l1 : Int} {m : Mem} {out : Int} (hk44 : ∀ l0, k44 l0 = some out → Jd g w 3 (rmL lv 0 0) (Qm g w (some (vI out)) m) 44 [some (vR l0), none, none] [] 312 m 0 0) (hr2 : ∀ l0 l1, r2 l0 l1 = some out → Jd g w 3 (rmL lv 0 0) (Qm g w (some (vI out)) m) 2 [some (vR l0), some (vI l1), none] [] 312 m 0 0) (h : X11_canBe_L2_b N k44 m r2 l0 l1 = some out) : Jd g w 3 (rmL lv 0 0) (Qm g w (some (vI out)) m) 2 [some (vR l0), some (vI l1), none] [] 312 m 0 0 := by
  unfold X11_canBe_L2_b at h
  refine j_iload_n C dX11_canBe_2 rfl ?_
  refine j_aload_n C dX11_canBe_3 rfl ?_
  obtain ⟨p1, ep1, h⟩ := bind_some h
  have qp1 := X11_cells_ct ep1
  refine j_cVI C dX11_canBe_4 vl_X11_438 CF11 rfl qp1.1 qp1.2 (by omega) rfl rfl (Nat.le_of_ble_eq_true rfl) ?_
  refine j_icmp_ge C 44 dX11_canBe_7 rfl h (fun c8 h => ?_) (fun c8 h => ?_)
  · refine j_mask [true, false, false] (ls' := [some (vR _), none, none]) rfl ?_
    exact hk44 _ h
  · refine j_aload_n C dX11_canBe_10 rfl ?_
    refine j_iconst C dX11_canBe_11 rfl ?_
    refine j_iload_n C dX11_canBe_12 rfl ?_
    obtain ⟨p2, ep2, h⟩ := bind_some h
    have qp2 := X11_isWall_ct ep2
    refine j_cVI C dX11_canBe_13 vl_X11_451 CF11 rfl qp2.1 qp2.2 (by omega) rfl rfl (Nat.le_of_ble_eq_true rfl) ?_
    refine j_if_eq C 38 dX11_canBe_16 rfl h (fun c7 h => ?_) (fun c7 h => ?_)
    · exact X11_canBe_J38_ok C hlv hr2 h
    · refine j_aload_n C dX11_canBe_19 rfl ?_
      refine j_iload_n C dX11_canBe_20 rfl ?_
      obtain ⟨p3, ep3, h⟩ := bind_some h
      have qp3 := X11_isHouse_ct ep3
      refine j_cVI C dX11_canBe_21 vl_X11_458 CF11 rfl qp3.1 qp3.2 (by omega) rfl rfl (Nat.le_of_ble_eq_true rfl) ?_
      refine j_if_ne C 36 dX11_canBe_24 rfl h (fun c6 h => ?_) (fun c6 h => ?_)
      · refine j_iconst C dX11_canBe_36 rfl ?_
        exact j_rz C dX11_canBe_37 rfl (retZ_some h) rfl
      · refine j_aload_n C dX11_canBe_27 rfl ?_
        refine j_iload_n C dX11_canBe_28 rfl ?_
        obtain ⟨p4, ep4, h⟩ := bind_some h
        have qp4 := X11_cisternAt_ct ep4
        refine j_cVI C dX11_canBe_29 vl_X11_464 CF11 rfl qp4.1 qp4.2 (by omega) rfl rfl (Nat.le_of_ble_eq_true rfl) ?_
        refine j_iconst C dX11_canBe_32 rfl ?_
        refine j_icmp_eq C 38 dX11_canBe_33 rfl h (fun c5 h => ?_) (fun c5 h => ?_)
        · exact X11_canBe_J38_ok C hlv hr2 h
        · refine j_iconst C dX11_canBe_36 rfl ?_
          exact j_rz C dX11_canBe_37 rfl (retZ_some h) rfl
set_option maxRecDepth 100000 in
set_option maxHeartbeats 4000000 in
theorem X11_canBe_L2_ok {g : Gm} {w : Wd} (C : Cx g w RX11 cX11_canBe 3 (some .boolean)) {lv : Nat} (hlv : 2 < lv) {N : Nat} {k44 : Nat → Option Int} {m : Mem} {out : Int} (hk44 : ∀ l0, k44 l0 = some out → Jd g w 3 (rmL lv 0 0) (Qm g w (some (vI out)) m) 44 [some (vR l0), none, none] [] 312 m 0 0) (f : Nat) : ∀ {l0 : Nat} {l1 : Int}, X11_canBe_L2 N k44 m f l0 l1 = some out → Jd g w 3 (rmL lv 0 0) (Qm g w (some (vI out)) m) 2 [some (vR l0), some (vI l1), none] [] 312 m 0 0 := by
  induction f with
  | zero => intro l0 l1 h; exact none_ne (α := Int) h
  | succ f ih => intro l0 l1 h; exact X11_canBe_L2_bok C hlv hk44 (fun l0 l1 h => ih h) h
set_option maxRecDepth 100000 in
set_option maxHeartbeats 4000000 in
theorem X11_canBe_L46_bok {g : Gm} {w : Wd} (C : Cx g w RX11 cX11_canBe 3 (some .boolean)) {lv : Nat} (hlv : 2 < lv) {N : Nat} {r46 : Nat → Int → Option Int} {l0 : Nat} {l1 : Int} {m : Mem} {out : Int} (hr46 : ∀ l0 l1, r46 l0 l1 = some out → Jd g w 3 (rmL lv 0 0) (Qm g w (some (vI out)) m) 46 [some (vR l0), some (vI l1), none] [] 312 m 0 0) (h : X11_canBe_L46_b N m r46 l0 l1 = some out) : Jd g w 3 (rmL lv 0 0) (Qm g w (some (vI out)) m) 46 [some (vR l0), some (vI l1), none] [] 312 m 0 0 := by
  unfold X11_canBe_L46_b at h
  refine j_iload_n C dX11_canBe_46 rfl ?_
  refine j_aload_n C dX11_canBe_47 rfl ?_
  refine j_getR C dX11_canBe_48 CF11 (by decide) fl_X11_81 rfl rfl h (fun t10 h => ?_)
  refine j_aload_n C dX11_canBe_51 rfl ?_
  refine j_getI C dX11_canBe_52 CF11 (by decide) fl_X11_51 rfl rfl h (fun t11 h => ?_)
  refine j_iald C dX11_canBe_55 rfl h (fun t12 h => ?_)
  refine j_icmp_ge C 121 dX11_canBe_56 rfl h (fun c25 h => ?_) (fun c25 h => ?_)
  · refine j_iconst C dX11_canBe_121 rfl ?_
    exact j_rz C dX11_canBe_122 rfl (retZ_some h) rfl
  · refine j_aload_n C dX11_canBe_59 rfl ?_
    refine j_getR C dX11_canBe_60 CF11 (by decide) fl_X11_170 rfl rfl h (fun t13 h => ?_)
    refine j_bipush C dX11_canBe_63 rfl ?_
    refine j_iload_n C dX11_canBe_65 rfl ?_
    refine j_iadd C dX11_canBe_66 ?_
    refine j_iald C dX11_canBe_67 rfl h (fun t14 h => ?_)
    refine j_istore_n (ls' := [some (vR _), some (vI _), some (vI _)]) C dX11_canBe_68 (by decide) rfl ?_
    refine j_aload_n C dX11_canBe_69 rfl ?_
    refine j_iload_n C dX11_canBe_70 rfl ?_
    obtain ⟨p15, ep15, h⟩ := bind_some h
    have qp15 := X11_isCell_ct ep15
    refine j_cVI C dX11_canBe_71 vl_X11_532 CF11 rfl qp15.1 qp15.2 (by omega) rfl rfl (Nat.le_of_ble_eq_true rfl) ?_
    refine j_if_eq C 113 dX11_canBe_74 rfl h (fun c24 h => ?_) (fun c24 h => ?_)
    · refine j_iconst C dX11_canBe_113 rfl ?_
      exact j_rz C dX11_canBe_114 rfl (retZ_some h) rfl
    · refine j_aload_n C dX11_canBe_77 rfl ?_
      refine j_iconst C dX11_canBe_78 rfl ?_
      refine j_iload_n C dX11_canBe_79 rfl ?_
      obtain ⟨p16, ep16, h⟩ := bind_some h
      have qp16 := X11_isWall_ct ep16
      refine j_cVI C dX11_canBe_80 vl_X11_451 CF11 rfl qp16.1 qp16.2 (by omega) rfl rfl (Nat.le_of_ble_eq_true rfl) ?_
      refine j_if_ne C 113 dX11_canBe_83 rfl h (fun c23 h => ?_) (fun c23 h => ?_)
      · refine j_iconst C dX11_canBe_113 rfl ?_
        exact j_rz C dX11_canBe_114 rfl (retZ_some h) rfl
      · refine j_aload_n C dX11_canBe_86 rfl ?_
        refine j_iload_n C dX11_canBe_87 rfl ?_
        obtain ⟨p17, ep17, h⟩ := bind_some h
        have qp17 := X11_isHouse_ct ep17
        refine j_cVI C dX11_canBe_88 vl_X11_458 CF11 rfl qp17.1 qp17.2 (by omega) rfl rfl (Nat.le_of_ble_eq_true rfl) ?_
        refine j_if_ne C 113 dX11_canBe_91 rfl h (fun c22 h => ?_) (fun c22 h => ?_)
        · refine j_iconst C dX11_canBe_113 rfl ?_
          exact j_rz C dX11_canBe_114 rfl (retZ_some h) rfl
        · refine j_aload_n C dX11_canBe_94 rfl ?_
          refine j_iload_n C dX11_canBe_95 rfl ?_
          obtain ⟨p18, ep18, h⟩ := bind_some h
          have qp18 := X11_cisternAt_ct ep18
          refine j_cVI C dX11_canBe_96 vl_X11_464 CF11 rfl qp18.1 qp18.2 (by omega) rfl rfl (Nat.le_of_ble_eq_true rfl) ?_
          refine j_iconst C dX11_canBe_99 rfl ?_
          refine j_icmp_ne C 113 dX11_canBe_100 rfl h (fun c21 h => ?_) (fun c21 h => ?_)
          · refine j_iconst C dX11_canBe_113 rfl ?_
            exact j_rz C dX11_canBe_114 rfl (retZ_some h) rfl
          · refine j_aload_n C dX11_canBe_103 rfl ?_
            refine j_iconst C dX11_canBe_104 rfl ?_
            refine j_iload_n C dX11_canBe_105 rfl ?_
            obtain ⟨p19, ep19, h⟩ := bind_some h
            have qp19 := X11_thingAt_ct ep19
            refine j_cVI C dX11_canBe_106 vl_X11_461 CF11 rfl qp19.1 qp19.2 (by omega) rfl rfl (Nat.le_of_ble_eq_true rfl) ?_
            refine j_iload_n C dX11_canBe_109 rfl ?_
            refine j_icmp_eq C 115 dX11_canBe_110 rfl h (fun c20 h => ?_) (fun c20 h => ?_)
            · refine j_iinc (ls' := [some (vR _), some (vI _), some (vI _)]) C dX11_canBe_115 rfl (by decide) rfl ?_
              refine j_goto C 46 dX11_canBe_118 rfl ?_
              refine j_mask [true, true, false] (ls' := [some (vR _), some (vI _), none]) rfl ?_
              exact hr46 _ _ h
            · refine j_iconst C dX11_canBe_113 rfl ?_
              exact j_rz C dX11_canBe_114 rfl (retZ_some h) rfl
set_option maxRecDepth 100000 in
set_option maxHeartbeats 4000000 in
theorem X11_canBe_L46_ok {g : Gm} {w : Wd} (C : Cx g w RX11 cX11_canBe 3 (some .boolean)) {lv : Nat} (hlv : 2 < lv) {N : Nat} {m : Mem} {out : Int} (f : Nat) : ∀ {l0 : Nat} {l1 : Int}, X11_canBe_L46 N m f l0 l1 = some out → Jd g w 3 (rmL lv 0 0) (Qm g w (some (vI out)) m) 46 [some (vR l0), some (vI l1), none] [] 312 m 0 0 := by
  induction f with
  | zero => intro l0 l1 h; exact none_ne (α := Int) h
  | succ f ih => intro l0 l1 h; exact X11_canBe_L46_bok C hlv (fun l0 l1 h => ih h) h
set_option maxRecDepth 100000 in
set_option maxHeartbeats 4000000 in
theorem X11_canBe_ct {N : Nat} {l0 : Nat} {m : Mem} {out : Int} (h : X11_canBe N l0 m = some out) : shK l0 = 11 + 10 ∧ CT yX11_canBe cX11_canBe 3 (some .boolean) 3 0 0 [vR l0] 312 m (some (vI out)) 312 m := by
  unfold X11_canBe at h
  obtain ⟨hK, h⟩ := ite_some h
  have hlv : 2 < 3 := by decide
  refine ⟨hK, CT.of (by decide +kernel) rfl (Nat.le_of_ble_eq_true rfl) (ls := [some (vR l0), none, none]) rfl fun g w C _ => ?_⟩
  refine j_iconst C dX11_canBe_0 rfl ?_
  refine j_istore_n (ls' := [some (vR _), some (vI _), none]) C dX11_canBe_1 (by decide) rfl ?_
  refine X11_canBe_L2_ok C hlv (fun z9 h => ?_) N h
  refine j_iconst C dX11_canBe_44 rfl ?_
  refine j_istore_n (ls' := [some (vR _), some (vI _), none]) C dX11_canBe_45 (by decide) rfl ?_
  exact X11_canBe_L46_ok C hlv N h
theorem dX11_isEdge_0 : decode cX11_isEdge 0 = .ok (.iload_n 1, 1) := by decide +kernel
theorem dX11_isEdge_1 : decode cX11_isEdge 1 = .ok (.aload_n 0, 1) := by decide +kernel
theorem dX11_isEdge_2 : decode cX11_isEdge 2 = .ok (.getfield 54, 3) := by decide +kernel
theorem dX11_isEdge_5 : decode cX11_isEdge 5 = .ok (.aload_n 0, 1) := by decide +kernel
theorem dX11_isEdge_6 : decode cX11_isEdge 6 = .ok (.getfield 51, 3) := by decide +kernel
theorem dX11_isEdge_9 : decode cX11_isEdge 9 = .ok (.iaload, 1) := by decide +kernel
theorem dX11_isEdge_10 : decode cX11_isEdge 10 = .ok (.irem, 1) := by decide +kernel
theorem dX11_isEdge_11 : decode cX11_isEdge 11 = .ok (.istore_n 2, 1) := by decide +kernel
theorem dX11_isEdge_12 : decode cX11_isEdge 12 = .ok (.iload_n 1, 1) := by decide +kernel
theorem dX11_isEdge_13 : decode cX11_isEdge 13 = .ok (.aload_n 0, 1) := by decide +kernel
theorem dX11_isEdge_14 : decode cX11_isEdge 14 = .ok (.getfield 54, 3) := by decide +kernel
theorem dX11_isEdge_17 : decode cX11_isEdge 17 = .ok (.aload_n 0, 1) := by decide +kernel
theorem dX11_isEdge_18 : decode cX11_isEdge 18 = .ok (.getfield 51, 3) := by decide +kernel
theorem dX11_isEdge_21 : decode cX11_isEdge 21 = .ok (.iaload, 1) := by decide +kernel
theorem dX11_isEdge_22 : decode cX11_isEdge 22 = .ok (.idiv, 1) := by decide +kernel
theorem dX11_isEdge_23 : decode cX11_isEdge 23 = .ok (.istore_n 3, 1) := by decide +kernel
theorem dX11_isEdge_24 : decode cX11_isEdge 24 = .ok (.iload_n 2, 1) := by decide +kernel
theorem dX11_isEdge_25 : decode cX11_isEdge 25 = .ok (.ifCond .eq 37, 3) := by decide +kernel
theorem dX11_isEdge_28 : decode cX11_isEdge 28 = .ok (.iload_n 3, 1) := by decide +kernel
theorem dX11_isEdge_29 : decode cX11_isEdge 29 = .ok (.ifCond .eq 33, 3) := by decide +kernel
theorem dX11_isEdge_32 : decode cX11_isEdge 32 = .ok (.iload_n 2, 1) := by decide +kernel
theorem dX11_isEdge_33 : decode cX11_isEdge 33 = .ok (.aload_n 0, 1) := by decide +kernel
theorem dX11_isEdge_34 : decode cX11_isEdge 34 = .ok (.getfield 54, 3) := by decide +kernel
theorem dX11_isEdge_37 : decode cX11_isEdge 37 = .ok (.aload_n 0, 1) := by decide +kernel
theorem dX11_isEdge_38 : decode cX11_isEdge 38 = .ok (.getfield 51, 3) := by decide +kernel
theorem dX11_isEdge_41 : decode cX11_isEdge 41 = .ok (.iaload, 1) := by decide +kernel
theorem dX11_isEdge_42 : decode cX11_isEdge 42 = .ok (.iconst 1, 1) := by decide +kernel
theorem dX11_isEdge_43 : decode cX11_isEdge 43 = .ok (.isub, 1) := by decide +kernel
theorem dX11_isEdge_44 : decode cX11_isEdge 44 = .ok (.if_icmp .eq 18, 3) := by decide +kernel
theorem dX11_isEdge_47 : decode cX11_isEdge 47 = .ok (.iload_n 3, 1) := by decide +kernel
theorem dX11_isEdge_48 : decode cX11_isEdge 48 = .ok (.aload_n 0, 1) := by decide +kernel
theorem dX11_isEdge_49 : decode cX11_isEdge 49 = .ok (.getfield 57, 3) := by decide +kernel
theorem dX11_isEdge_52 : decode cX11_isEdge 52 = .ok (.aload_n 0, 1) := by decide +kernel
theorem dX11_isEdge_53 : decode cX11_isEdge 53 = .ok (.getfield 51, 3) := by decide +kernel
theorem dX11_isEdge_56 : decode cX11_isEdge 56 = .ok (.iaload, 1) := by decide +kernel
theorem dX11_isEdge_57 : decode cX11_isEdge 57 = .ok (.iconst 1, 1) := by decide +kernel
theorem dX11_isEdge_58 : decode cX11_isEdge 58 = .ok (.isub, 1) := by decide +kernel
theorem dX11_isEdge_59 : decode cX11_isEdge 59 = .ok (.if_icmp .ne 7, 3) := by decide +kernel
theorem dX11_isEdge_62 : decode cX11_isEdge 62 = .ok (.iconst 1, 1) := by decide +kernel
theorem dX11_isEdge_63 : decode cX11_isEdge 63 = .ok (.goto 4, 3) := by decide +kernel
theorem dX11_isEdge_66 : decode cX11_isEdge 66 = .ok (.iconst 0, 1) := by decide +kernel
theorem dX11_isEdge_67 : decode cX11_isEdge 67 = .ok (.ireturn, 1) := by decide +kernel
set_option maxRecDepth 100000 in
set_option maxHeartbeats 4000000 in
theorem X11_isEdge_J62_ok {g : Gm} {w : Wd} (C : Cx g w RX11 cX11_isEdge 4 (some .boolean)) {lv : Nat} (hlv : 0 < lv)  {m : Mem} {out : Int} (h : X11_isEdge_J62 m = some out) : Jd g w 4 (rmL lv 0 0) (Qm g w (some (vI out)) m) 62 [none, none, none, none] [] 312 m 0 0 := by
  unfold X11_isEdge_J62 at h
  refine j_iconst C dX11_isEdge_62 rfl ?_
  refine j_goto C 67 dX11_isEdge_63 rfl ?_
  exact j_rz C dX11_isEdge_67 rfl (retZ_some h) rfl
set_option maxRecDepth 100000 in
set_option maxHeartbeats 4000000 in
theorem X11_isEdge_ct {l0 : Nat} {l1 : Int} {m : Mem} {out : Int} (h : X11_isEdge l0 l1 m = some out) : shK l0 = 11 + 10 ∧ CT yX11_isEdge cX11_isEdge 4 (some .boolean) 1 0 0 [vR l0, vI l1] 312 m (some (vI out)) 312 m := by
  unfold X11_isEdge at h
  obtain ⟨hK, h⟩ := ite_some h
  have hlv : 0 < 1 := by decide
  refine ⟨hK, CT.of (by decide +kernel) rfl (Nat.le_of_ble_eq_true rfl) (ls := [some (vR l0), some (vI l1), none, none]) rfl fun g w C _ => ?_⟩
  refine j_iload_n C dX11_isEdge_0 rfl ?_
  refine j_aload_n C dX11_isEdge_1 rfl ?_
  refine j_getR C dX11_isEdge_2 CF11 (by decide) fl_X11_54 rfl rfl h (fun t1 h => ?_)
  refine j_aload_n C dX11_isEdge_5 rfl ?_
  refine j_getI C dX11_isEdge_6 CF11 (by decide) fl_X11_51 rfl rfl h (fun t2 h => ?_)
  refine j_iald C dX11_isEdge_9 rfl h (fun t3 h => ?_)
  obtain ⟨c4, h⟩ := ite_none h
  refine j_irem C dX11_isEdge_10 c4 ?_
  refine j_istore_n (ls' := [some (vR _), some (vI _), some (vI _), none]) C dX11_isEdge_11 (by decide) rfl ?_
  refine j_iload_n C dX11_isEdge_12 rfl ?_
  refine j_aload_n C dX11_isEdge_13 rfl ?_
  refine j_getR C dX11_isEdge_14 CF11 (by decide) fl_X11_54 rfl rfl h (fun t5 h => ?_)
  refine j_aload_n C dX11_isEdge_17 rfl ?_
  refine j_getI C dX11_isEdge_18 CF11 (by decide) fl_X11_51 rfl rfl h (fun t6 h => ?_)
  refine j_iald C dX11_isEdge_21 rfl h (fun t7 h => ?_)
  obtain ⟨c8, h⟩ := ite_none h
  refine j_idiv C dX11_isEdge_22 c8 ?_
  refine j_istore_n (ls' := [some (vR _), some (vI _), some (vI _), some (vI _)]) C dX11_isEdge_23 (by decide) rfl ?_
  refine j_iload_n C dX11_isEdge_24 rfl ?_
  refine j_if_eq C 62 dX11_isEdge_25 rfl h (fun c18 h => ?_) (fun c18 h => ?_)
  · refine j_mask [false, false, false, false] (ls' := [none, none, none, none]) rfl ?_
    exact X11_isEdge_J62_ok C hlv h
  · refine j_iload_n C dX11_isEdge_28 rfl ?_
    refine j_if_eq C 62 dX11_isEdge_29 rfl h (fun c17 h => ?_) (fun c17 h => ?_)
    · refine j_mask [false, false, false, false] (ls' := [none, none, none, none]) rfl ?_
      exact X11_isEdge_J62_ok C hlv h
    · refine j_iload_n C dX11_isEdge_32 rfl ?_
      refine j_aload_n C dX11_isEdge_33 rfl ?_
      refine j_getR C dX11_isEdge_34 CF11 (by decide) fl_X11_54 rfl rfl h (fun t9 h => ?_)
      refine j_aload_n C dX11_isEdge_37 rfl ?_
      refine j_getI C dX11_isEdge_38 CF11 (by decide) fl_X11_51 rfl rfl h (fun t10 h => ?_)
      refine j_iald C dX11_isEdge_41 rfl h (fun t11 h => ?_)
      refine j_iconst C dX11_isEdge_42 rfl ?_
      refine j_isub C dX11_isEdge_43 ?_
      refine j_icmp_eq C 62 dX11_isEdge_44 rfl h (fun c16 h => ?_) (fun c16 h => ?_)
      · refine j_mask [false, false, false, false] (ls' := [none, none, none, none]) rfl ?_
        exact X11_isEdge_J62_ok C hlv h
      · refine j_iload_n C dX11_isEdge_47 rfl ?_
        refine j_aload_n C dX11_isEdge_48 rfl ?_
        refine j_getR C dX11_isEdge_49 CF11 (by decide) fl_X11_57 rfl rfl h (fun t12 h => ?_)
        refine j_aload_n C dX11_isEdge_52 rfl ?_
        refine j_getI C dX11_isEdge_53 CF11 (by decide) fl_X11_51 rfl rfl h (fun t13 h => ?_)
        refine j_iald C dX11_isEdge_56 rfl h (fun t14 h => ?_)
        refine j_iconst C dX11_isEdge_57 rfl ?_
        refine j_isub C dX11_isEdge_58 ?_
        refine j_icmp_ne C 66 dX11_isEdge_59 rfl h (fun c15 h => ?_) (fun c15 h => ?_)
        · refine j_iconst C dX11_isEdge_66 rfl ?_
          exact j_rz C dX11_isEdge_67 rfl (retZ_some h) rfl
        · refine j_mask [false, false, false, false] (ls' := [none, none, none, none]) rfl ?_
          exact X11_isEdge_J62_ok C hlv h
theorem dX11_canBegin_0 : decode cX11_canBegin 0 = .ok (.aload_n 0, 1) := by decide +kernel
theorem dX11_canBegin_1 : decode cX11_canBegin 1 = .ok (.aload_n 0, 1) := by decide +kernel
theorem dX11_canBegin_2 : decode cX11_canBegin 2 = .ok (.getfield 236, 3) := by decide +kernel
theorem dX11_canBegin_5 : decode cX11_canBegin 5 = .ok (.iload_n 1, 1) := by decide +kernel
theorem dX11_canBegin_6 : decode cX11_canBegin 6 = .ok (.iaload, 1) := by decide +kernel
theorem dX11_canBegin_7 : decode cX11_canBegin 7 = .ok (.invokevirtual 602, 3) := by decide +kernel
theorem dX11_canBegin_10 : decode cX11_canBegin 10 = .ok (.ifCond .eq 37, 3) := by decide +kernel
theorem dX11_canBegin_13 : decode cX11_canBegin 13 = .ok (.aload_n 0, 1) := by decide +kernel
theorem dX11_canBegin_14 : decode cX11_canBegin 14 = .ok (.iconst 0, 1) := by decide +kernel
theorem dX11_canBegin_15 : decode cX11_canBegin 15 = .ok (.aload_n 0, 1) := by decide +kernel
theorem dX11_canBegin_16 : decode cX11_canBegin 16 = .ok (.getfield 236, 3) := by decide +kernel
theorem dX11_canBegin_19 : decode cX11_canBegin 19 = .ok (.iload_n 1, 1) := by decide +kernel
theorem dX11_canBegin_20 : decode cX11_canBegin 20 = .ok (.iaload, 1) := by decide +kernel
theorem dX11_canBegin_21 : decode cX11_canBegin 21 = .ok (.invokevirtual 451, 3) := by decide +kernel
theorem dX11_canBegin_24 : decode cX11_canBegin 24 = .ok (.ifCond .ne 23, 3) := by decide +kernel
theorem dX11_canBegin_27 : decode cX11_canBegin 27 = .ok (.aload_n 0, 1) := by decide +kernel
theorem dX11_canBegin_28 : decode cX11_canBegin 28 = .ok (.getfield 239, 3) := by decide +kernel
theorem dX11_canBegin_31 : decode cX11_canBegin 31 = .ok (.bipush 10, 2) := by decide +kernel
theorem dX11_canBegin_33 : decode cX11_canBegin 33 = .ok (.iconst 1, 1) := by decide +kernel
theorem dX11_canBegin_34 : decode cX11_canBegin 34 = .ok (.iload_n 1, 1) := by decide +kernel
theorem dX11_canBegin_35 : decode cX11_canBegin 35 = .ok (.ishl, 1) := by decide +kernel
theorem dX11_canBegin_36 : decode cX11_canBegin 36 = .ok (.imul, 1) := by decide +kernel
theorem dX11_canBegin_37 : decode cX11_canBegin 37 = .ok (.iload_n 1, 1) := by decide +kernel
theorem dX11_canBegin_38 : decode cX11_canBegin 38 = .ok (.iadd, 1) := by decide +kernel
theorem dX11_canBegin_39 : decode cX11_canBegin 39 = .ok (.iaload, 1) := by decide +kernel
theorem dX11_canBegin_40 : decode cX11_canBegin 40 = .ok (.ifCond .le 7, 3) := by decide +kernel
theorem dX11_canBegin_43 : decode cX11_canBegin 43 = .ok (.iconst 1, 1) := by decide +kernel
theorem dX11_canBegin_44 : decode cX11_canBegin 44 = .ok (.goto 4, 3) := by decide +kernel
theorem dX11_canBegin_47 : decode cX11_canBegin 47 = .ok (.iconst 0, 1) := by decide +kernel
theorem dX11_canBegin_48 : decode cX11_canBegin 48 = .ok (.ireturn, 1) := by decide +kernel
set_option maxRecDepth 100000 in
set_option maxHeartbeats 4000000 in
theorem X11_canBegin_ct {l0 : Nat} {l1 : Int} {m : Mem} {out : Int} (h : X11_canBegin l0 l1 m = some out) : shK l0 = 11 + 10 ∧ CT yX11_canBegin cX11_canBegin 2 (some .boolean) 2 0 0 [vR l0, vI l1] 312 m (some (vI out)) 312 m := by
  unfold X11_canBegin at h
  obtain ⟨hK, h⟩ := ite_some h
  have hlv : 1 < 2 := by decide
  refine ⟨hK, CT.of (by decide +kernel) rfl (Nat.le_of_ble_eq_true rfl) (ls := [some (vR l0), some (vI l1)]) rfl fun g w C _ => ?_⟩
  refine j_aload_n C dX11_canBegin_0 rfl ?_
  refine j_aload_n C dX11_canBegin_1 rfl ?_
  refine j_getR C dX11_canBegin_2 CF11 (by decide) fl_X11_236 rfl rfl h (fun t1 h => ?_)
  refine j_iload_n C dX11_canBegin_5 rfl ?_
  refine j_iald C dX11_canBegin_6 rfl h (fun t2 h => ?_)
  obtain ⟨p3, ep3, h⟩ := bind_some h
  have qp3 := X11_isEdge_ct ep3
  refine j_cVI C dX11_canBegin_7 vl_X11_602 CF11 rfl qp3.1 qp3.2 (by omega) rfl rfl (Nat.le_of_ble_eq_true rfl) ?_
  refine j_if_eq C 47 dX11_canBegin_10 rfl h (fun c11 h => ?_) (fun c11 h => ?_)
  · refine j_iconst C dX11_canBegin_47 rfl ?_
    exact j_rz C dX11_canBegin_48 rfl (retZ_some h) rfl
  · refine j_aload_n C dX11_canBegin_13 rfl ?_
    refine j_iconst C dX11_canBegin_14 rfl ?_
    refine j_aload_n C dX11_canBegin_15 rfl ?_
    refine j_getR C dX11_canBegin_16 CF11 (by decide) fl_X11_236 rfl rfl h (fun t4 h => ?_)
    refine j_iload_n C dX11_canBegin_19 rfl ?_
    refine j_iald C dX11_canBegin_20 rfl h (fun t5 h => ?_)
    obtain ⟨p6, ep6, h⟩ := bind_some h
    have qp6 := X11_isWall_ct ep6
    refine j_cVI C dX11_canBegin_21 vl_X11_451 CF11 rfl qp6.1 qp6.2 (by omega) rfl rfl (Nat.le_of_ble_eq_true rfl) ?_
    refine j_if_ne C 47 dX11_canBegin_24 rfl h (fun c10 h => ?_) (fun c10 h => ?_)
    · refine j_iconst C dX11_canBegin_47 rfl ?_
      exact j_rz C dX11_canBegin_48 rfl (retZ_some h) rfl
    · refine j_aload_n C dX11_canBegin_27 rfl ?_
      refine j_getR C dX11_canBegin_28 CF11 (by decide) fl_X11_239 rfl rfl h (fun t7 h => ?_)
      refine j_bipush C dX11_canBegin_31 rfl ?_
      refine j_iconst C dX11_canBegin_33 rfl ?_
      refine j_iload_n C dX11_canBegin_34 rfl ?_
      refine j_ishl C dX11_canBegin_35 ?_
      refine j_imul C dX11_canBegin_36 ?_
      refine j_iload_n C dX11_canBegin_37 rfl ?_
      refine j_iadd C dX11_canBegin_38 ?_
      refine j_iald C dX11_canBegin_39 rfl h (fun t8 h => ?_)
      refine j_if_le C 47 dX11_canBegin_40 rfl h (fun c9 h => ?_) (fun c9 h => ?_)
      · refine j_iconst C dX11_canBegin_47 rfl ?_
        exact j_rz C dX11_canBegin_48 rfl (retZ_some h) rfl
      · refine j_iconst C dX11_canBegin_43 rfl ?_
        refine j_goto C 48 dX11_canBegin_44 rfl ?_
        exact j_rz C dX11_canBegin_48 rfl (retZ_some h) rfl
theorem dX11_sunOf_0 : decode cX11_sunOf 0 = .ok (.iconst 0, 1) := by decide +kernel
theorem dX11_sunOf_1 : decode cX11_sunOf 1 = .ok (.istore_n 2, 1) := by decide +kernel
theorem dX11_sunOf_2 : decode cX11_sunOf 2 = .ok (.iload_n 1, 1) := by decide +kernel
theorem dX11_sunOf_3 : decode cX11_sunOf 3 = .ok (.aload_n 0, 1) := by decide +kernel
theorem dX11_sunOf_4 : decode cX11_sunOf 4 = .ok (.getfield 54, 3) := by decide +kernel
theorem dX11_sunOf_7 : decode cX11_sunOf 7 = .ok (.aload_n 0, 1) := by decide +kernel
theorem dX11_sunOf_8 : decode cX11_sunOf 8 = .ok (.getfield 51, 3) := by decide +kernel
theorem dX11_sunOf_11 : decode cX11_sunOf 11 = .ok (.iaload, 1) := by decide +kernel
theorem dX11_sunOf_12 : decode cX11_sunOf 12 = .ok (.irem, 1) := by decide +kernel
theorem dX11_sunOf_13 : decode cX11_sunOf 13 = .ok (.iconst 1, 1) := by decide +kernel
theorem dX11_sunOf_14 : decode cX11_sunOf 14 = .ok (.iadd, 1) := by decide +kernel
theorem dX11_sunOf_15 : decode cX11_sunOf 15 = .ok (.istore_n 3, 1) := by decide +kernel
theorem dX11_sunOf_16 : decode cX11_sunOf 16 = .ok (.iload_n 3, 1) := by decide +kernel
theorem dX11_sunOf_17 : decode cX11_sunOf 17 = .ok (.aload_n 0, 1) := by decide +kernel
theorem dX11_sunOf_18 : decode cX11_sunOf 18 = .ok (.getfield 54, 3) := by decide +kernel
theorem dX11_sunOf_21 : decode cX11_sunOf 21 = .ok (.aload_n 0, 1) := by decide +kernel
theorem dX11_sunOf_22 : decode cX11_sunOf 22 = .ok (.getfield 51, 3) := by decide +kernel
theorem dX11_sunOf_25 : decode cX11_sunOf 25 = .ok (.iaload, 1) := by decide +kernel
theorem dX11_sunOf_26 : decode cX11_sunOf 26 = .ok (.if_icmp .ge 41, 3) := by decide +kernel
theorem dX11_sunOf_29 : decode cX11_sunOf 29 = .ok (.iload_n 2, 1) := by decide +kernel
theorem dX11_sunOf_30 : decode cX11_sunOf 30 = .ok (.aload_n 0, 1) := by decide +kernel
theorem dX11_sunOf_31 : decode cX11_sunOf 31 = .ok (.iconst 0, 1) := by decide +kernel
theorem dX11_sunOf_32 : decode cX11_sunOf 32 = .ok (.iload_n 1, 1) := by decide +kernel
theorem dX11_sunOf_33 : decode cX11_sunOf 33 = .ok (.iload_n 1, 1) := by decide +kernel
theorem dX11_sunOf_34 : decode cX11_sunOf 34 = .ok (.aload_n 0, 1) := by decide +kernel
theorem dX11_sunOf_35 : decode cX11_sunOf 35 = .ok (.getfield 54, 3) := by decide +kernel
theorem dX11_sunOf_38 : decode cX11_sunOf 38 = .ok (.aload_n 0, 1) := by decide +kernel
theorem dX11_sunOf_39 : decode cX11_sunOf 39 = .ok (.getfield 51, 3) := by decide +kernel
theorem dX11_sunOf_42 : decode cX11_sunOf 42 = .ok (.iaload, 1) := by decide +kernel
theorem dX11_sunOf_43 : decode cX11_sunOf 43 = .ok (.irem, 1) := by decide +kernel
theorem dX11_sunOf_44 : decode cX11_sunOf 44 = .ok (.isub, 1) := by decide +kernel
theorem dX11_sunOf_45 : decode cX11_sunOf 45 = .ok (.iload_n 3, 1) := by decide +kernel
theorem dX11_sunOf_46 : decode cX11_sunOf 46 = .ok (.iadd, 1) := by decide +kernel
theorem dX11_sunOf_47 : decode cX11_sunOf 47 = .ok (.invokevirtual 451, 3) := by decide +kernel
theorem dX11_sunOf_50 : decode cX11_sunOf 50 = .ok (.ifCond .eq 8, 3) := by decide +kernel
theorem dX11_sunOf_53 : decode cX11_sunOf 53 = .ok (.bipush 10, 2) := by decide +kernel
theorem dX11_sunOf_55 : decode cX11_sunOf 55 = .ok (.goto 4, 3) := by decide +kernel
theorem dX11_sunOf_58 : decode cX11_sunOf 58 = .ok (.iconst 0, 1) := by decide +kernel
theorem dX11_sunOf_59 : decode cX11_sunOf 59 = .ok (.iadd, 1) := by decide +kernel
theorem dX11_sunOf_60 : decode cX11_sunOf 60 = .ok (.istore_n 2, 1) := by decide +kernel
theorem dX11_sunOf_61 : decode cX11_sunOf 61 = .ok (.iinc 3 1, 3) := by decide +kernel
theorem dX11_sunOf_64 : decode cX11_sunOf 64 = .ok (.goto (-48), 3) := by decide +kernel
theorem dX11_sunOf_67 : decode cX11_sunOf 67 = .ok (.iload_n 2, 1) := by decide +kernel
theorem dX11_sunOf_68 : decode cX11_sunOf 68 = .ok (.ireturn, 1) := by decide +kernel
set_option maxRecDepth 100000 in
set_option maxHeartbeats 4000000 in
theorem X11_sunOf_J59_ok {g : Gm} {w : Wd} (C : Cx g w RX11 cX11_sunOf 4 (some .int)) {lv : Nat} (hlv : 1 < lv) {N : Nat} {r16 : Nat → Int → Int → Int → Option Int } {l0 : Nat} {l1 : Int} {l3 : Int} {s0 : Int} {s1 : Int} {m : Mem} {out : Int} (hr16 : ∀ l0 l1 l2 l3, r16 l0 l1 l2 l3 = some out → Jd g w 4 (rmL lv 0 0) (Qm g w (some (vI out)) m) 16 [some (vR l0), some (vI l1), some (vI l2), some (vI l3)] [] 312 m 0 0) (h : X11_sunOf_J59 N r16 l0 l1 l3 s0 s1 m = some out) : Jd g w 4 (rmL lv 0 0) (Qm g w (some (vI out)) m) 59 [some (vR l0), some (vI l1), none, some (vI l3)] [vI s1, vI s0] 312 m 0 0 := by
  unfold X11_sunOf_J59 at h
  refine j_iadd C dX11_sunOf_59 ?_
  refine j_istore_n (ls' := [some (vR _), some (vI _), some (vI _), some (vI _)]) C dX11_sunOf_60 (by decide) rfl ?_
  refine j_iinc (ls' := [some (vR _), some (vI _), some (vI _), some (vI _)]) C dX11_sunOf_61 rfl (by decide) rfl ?_
  refine j_goto C 16 dX11_sunOf_64 rfl ?_
  exact hr16 _ _ _ _ h
set_option maxRecDepth 100000 in
set_option maxHeartbeats 4000000 in
theorem X11_sunOf_L16_bok {g : Gm} {w : Wd} (C : Cx g w RX11 cX11_sunOf 4 (some .int)) {lv : Nat} (hlv : 1 < lv) {N : Nat} {r16 : Nat → Int → Int → Int → Option Int} {l0 : Nat} {l1 : Int} {l2 : Int} {l3 : Int} {m : Mem} {out : Int} (hr16 : ∀ l0 l1 l2 l3, r16 l0 l1 l2 l3 = some out → Jd g w 4 (rmL lv 0 0) (Qm g w (some (vI out)) m) 16 [some (vR l0), some (vI l1), some (vI l2), some (vI l3)] [] 312 m 0 0) (h : X11_sunOf_L16_b N m r16 l0 l1 l2 l3 = some out) : Jd g w 4 (rmL lv 0 0) (Qm g w (some (vI out)) m) 16 [some (vR l0), some (vI l1), some (vI l2), some (vI l3)] [] 312 m 0 0 := by
  unfold X11_sunOf_L16_b at h
  refine j_iload_n C dX11_sunOf_16 rfl ?_
  refine j_aload_n C dX11_sunOf_17 rfl ?_
  refine j_getR C dX11_sunOf_18 CF11 (by decide) fl_X11_54 rfl rfl h (fun t5 h => ?_)
  refine j_aload_n C dX11_sunOf_21 rfl ?_
  refine j_getI C dX11_sunOf_22 CF11 (by decide) fl_X11_51 rfl rfl h (fun t6 h => ?_)
  refine j_iald C dX11_sunOf_25 rfl h (fun t7 h => ?_)
  refine j_icmp_ge C 67 dX11_sunOf_26 rfl h (fun c14 h => ?_) (fun c14 h => ?_)
  · refine j_iload_n C dX11_sunOf_67 rfl ?_
    exact j_ri C dX11_sunOf_68 rfl (Option.some.inj h).symm rfl
  · refine j_iload_n C dX11_sunOf_29 rfl ?_
    refine j_aload_n C dX11_sunOf_30 rfl ?_
    refine j_iconst C dX11_sunOf_31 rfl ?_
    refine j_iload_n C dX11_sunOf_32 rfl ?_
    refine j_iload_n C dX11_sunOf_33 rfl ?_
    refine j_aload_n C dX11_sunOf_34 rfl ?_
    refine j_getR C dX11_sunOf_35 CF11 (by decide) fl_X11_54 rfl rfl h (fun t8 h => ?_)
    refine j_aload_n C dX11_sunOf_38 rfl ?_
    refine j_getI C dX11_sunOf_39 CF11 (by decide) fl_X11_51 rfl rfl h (fun t9 h => ?_)
    refine j_iald C dX11_sunOf_42 rfl h (fun t10 h => ?_)
    obtain ⟨c11, h⟩ := ite_none h
    refine j_irem C dX11_sunOf_43 c11 ?_
    refine j_isub C dX11_sunOf_44 ?_
    refine j_iload_n C dX11_sunOf_45 rfl ?_
    refine j_iadd C dX11_sunOf_46 ?_
    obtain ⟨p12, ep12, h⟩ := bind_some h
    have qp12 := X11_isWall_ct ep12
    refine j_cVI C dX11_sunOf_47 vl_X11_451 CF11 rfl qp12.1 qp12.2 (by omega) rfl rfl (Nat.le_of_ble_eq_true rfl) ?_
    refine j_if_eq C 58 dX11_sunOf_50 rfl h (fun c13 h => ?_) (fun c13 h => ?_)
    · refine j_iconst C dX11_sunOf_58 rfl ?_
      refine j_mask [true, true, false, true] (ls' := [some (vR _), some (vI _), none, some (vI _)]) rfl ?_
      exact X11_sunOf_J59_ok C hlv hr16 h
    · refine j_bipush C dX11_sunOf_53 rfl ?_
      refine j_goto C 59 dX11_sunOf_55 rfl ?_
      refine j_mask [true, true, false, true] (ls' := [some (vR _), some (vI _), none, some (vI _)]) rfl ?_
      exact X11_sunOf_J59_ok C hlv hr16 h
set_option maxRecDepth 100000 in
set_option maxHeartbeats 4000000 in
theorem X11_sunOf_L16_ok {g : Gm} {w : Wd} (C : Cx g w RX11 cX11_sunOf 4 (some .int)) {lv : Nat} (hlv : 1 < lv) {N : Nat} {m : Mem} {out : Int} (f : Nat) : ∀ {l0 : Nat} {l1 : Int} {l2 : Int} {l3 : Int}, X11_sunOf_L16 N m f l0 l1 l2 l3 = some out → Jd g w 4 (rmL lv 0 0) (Qm g w (some (vI out)) m) 16 [some (vR l0), some (vI l1), some (vI l2), some (vI l3)] [] 312 m 0 0 := by
  induction f with
  | zero => intro l0 l1 l2 l3 h; exact none_ne (α := Int) h
  | succ f ih => intro l0 l1 l2 l3 h; exact X11_sunOf_L16_bok C hlv (fun l0 l1 l2 l3 h => ih h) h
set_option maxRecDepth 100000 in
set_option maxHeartbeats 4000000 in
theorem X11_sunOf_ct {N : Nat} {l0 : Nat} {l1 : Int} {m : Mem} {out : Int} (h : X11_sunOf N l0 l1 m = some out) : shK l0 = 11 + 10 ∧ CT yX11_sunOf cX11_sunOf 4 (some .int) 2 0 0 [vR l0, vI l1] 312 m (some (vI out)) 312 m := by
  unfold X11_sunOf at h
  obtain ⟨hK, h⟩ := ite_some h
  have hlv : 1 < 2 := by decide
  refine ⟨hK, CT.of (by decide +kernel) rfl (Nat.le_of_ble_eq_true rfl) (ls := [some (vR l0), some (vI l1), none, none]) rfl fun g w C _ => ?_⟩
  refine j_iconst C dX11_sunOf_0 rfl ?_
  refine j_istore_n (ls' := [some (vR _), some (vI _), some (vI _), none]) C dX11_sunOf_1 (by decide) rfl ?_
  refine j_iload_n C dX11_sunOf_2 rfl ?_
  refine j_aload_n C dX11_sunOf_3 rfl ?_
  refine j_getR C dX11_sunOf_4 CF11 (by decide) fl_X11_54 rfl rfl h (fun t1 h => ?_)
  refine j_aload_n C dX11_sunOf_7 rfl ?_
  refine j_getI C dX11_sunOf_8 CF11 (by decide) fl_X11_51 rfl rfl h (fun t2 h => ?_)
  refine j_iald C dX11_sunOf_11 rfl h (fun t3 h => ?_)
  obtain ⟨c4, h⟩ := ite_none h
  refine j_irem C dX11_sunOf_12 c4 ?_
  refine j_iconst C dX11_sunOf_13 rfl ?_
  refine j_iadd C dX11_sunOf_14 ?_
  refine j_istore_n (ls' := [some (vR _), some (vI _), some (vI _), some (vI _)]) C dX11_sunOf_15 (by decide) rfl ?_
  exact X11_sunOf_L16_ok C hlv N h
theorem dX11_cell_0 : decode cX11_cell 0 = .ok (.aload_n 0, 1) := by decide +kernel
theorem dX11_cell_1 : decode cX11_cell 1 = .ok (.iload_n 1, 1) := by decide +kernel
theorem dX11_cell_2 : decode cX11_cell 2 = .ok (.invokevirtual 532, 3) := by decide +kernel
theorem dX11_cell_5 : decode cX11_cell 5 = .ok (.ifCond .ne 5, 3) := by decide +kernel
theorem dX11_cell_8 : decode cX11_cell 8 = .ok (.iconst (-1), 1) := by decide +kernel
theorem dX11_cell_9 : decode cX11_cell 9 = .ok (.ireturn, 1) := by decide +kernel
theorem dX11_cell_10 : decode cX11_cell 10 = .ok (.iload_n 2, 1) := by decide +kernel
theorem dX11_cell_11 : decode cX11_cell 11 = .ok (.tableswitch 64 0 4 #[33, 39, 45, 52, 58], 33) := by decide +kernel
theorem dX11_cell_44 : decode cX11_cell 44 = .ok (.aload_n 0, 1) := by decide +kernel
theorem dX11_cell_45 : decode cX11_cell 45 = .ok (.iload_n 1, 1) := by decide +kernel
theorem dX11_cell_46 : decode cX11_cell 46 = .ok (.invokevirtual 476, 3) := by decide +kernel
theorem dX11_cell_49 : decode cX11_cell 49 = .ok (.ireturn, 1) := by decide +kernel
theorem dX11_cell_50 : decode cX11_cell 50 = .ok (.aload_n 0, 1) := by decide +kernel
theorem dX11_cell_51 : decode cX11_cell 51 = .ok (.iload_n 1, 1) := by decide +kernel
theorem dX11_cell_52 : decode cX11_cell 52 = .ok (.invokevirtual 535, 3) := by decide +kernel
theorem dX11_cell_55 : decode cX11_cell 55 = .ok (.ireturn, 1) := by decide +kernel
theorem dX11_cell_56 : decode cX11_cell 56 = .ok (.aload_n 0, 1) := by decide +kernel
theorem dX11_cell_57 : decode cX11_cell 57 = .ok (.iconst 0, 1) := by decide +kernel
theorem dX11_cell_58 : decode cX11_cell 58 = .ok (.iload_n 1, 1) := by decide +kernel
theorem dX11_cell_59 : decode cX11_cell 59 = .ok (.invokevirtual 473, 3) := by decide +kernel
theorem dX11_cell_62 : decode cX11_cell 62 = .ok (.ireturn, 1) := by decide +kernel
theorem dX11_cell_63 : decode cX11_cell 63 = .ok (.aload_n 0, 1) := by decide +kernel
theorem dX11_cell_64 : decode cX11_cell 64 = .ok (.iload_n 1, 1) := by decide +kernel
theorem dX11_cell_65 : decode cX11_cell 65 = .ok (.invokevirtual 479, 3) := by decide +kernel
theorem dX11_cell_68 : decode cX11_cell 68 = .ok (.ireturn, 1) := by decide +kernel
theorem dX11_cell_69 : decode cX11_cell 69 = .ok (.aload_n 0, 1) := by decide +kernel
theorem dX11_cell_70 : decode cX11_cell 70 = .ok (.iload_n 1, 1) := by decide +kernel
theorem dX11_cell_71 : decode cX11_cell 71 = .ok (.invokevirtual 538, 3) := by decide +kernel
theorem dX11_cell_74 : decode cX11_cell 74 = .ok (.ireturn, 1) := by decide +kernel
theorem dX11_cell_75 : decode cX11_cell 75 = .ok (.iconst (-1), 1) := by decide +kernel
theorem dX11_cell_76 : decode cX11_cell 76 = .ok (.ireturn, 1) := by decide +kernel
set_option maxRecDepth 100000 in
set_option maxHeartbeats 4000000 in
theorem X11_cell_ct {N : Nat} {l0 : Nat} {l1 : Int} {l2 : Int} {m : Mem} {out : Int} (h : X11_cell N l0 l1 l2 m = some out) : shK l0 = 11 + 10 ∧ CT yX11_cell cX11_cell 3 (some .int) 4 0 0 [vR l0, vI l1, vI l2] 312 m (some (vI out)) 312 m := by
  unfold X11_cell at h
  obtain ⟨hK, h⟩ := ite_some h
  have hlv : 3 < 4 := by decide
  refine ⟨hK, CT.of (by decide +kernel) rfl (Nat.le_of_ble_eq_true rfl) (ls := [some (vR l0), some (vI l1), some (vI l2)]) rfl fun g w C _ => ?_⟩
  refine j_aload_n C dX11_cell_0 rfl ?_
  refine j_iload_n C dX11_cell_1 rfl ?_
  obtain ⟨p1, ep1, h⟩ := bind_some h
  have qp1 := X11_isCell_ct ep1
  refine j_cVI C dX11_cell_2 vl_X11_532 CF11 rfl qp1.1 qp1.2 (by omega) rfl rfl (Nat.le_of_ble_eq_true rfl) ?_
  refine j_if_ne C 10 dX11_cell_5 rfl h (fun c12 h => ?_) (fun c12 h => ?_)
  · refine j_iload_n C dX11_cell_10 rfl ?_
    rcases ite_cases h with ⟨c3, h⟩ | ⟨c3, h⟩
    · refine j_tsIn C 44 (0) dX11_cell_11 c3 rfl rfl rfl ?_
      refine j_aload_n C dX11_cell_44 rfl ?_
      refine j_iload_n C dX11_cell_45 rfl ?_
      obtain ⟨p2, ep2, h⟩ := bind_some h
      have qp2 := X11_heightOf_ct ep2
      refine j_cVI C dX11_cell_46 vl_X11_476 CF11 rfl qp2.1 qp2.2 (by omega) rfl rfl (Nat.le_of_ble_eq_true rfl) ?_
      exact j_ri C dX11_cell_49 rfl (Option.some.inj h).symm rfl
    rcases ite_cases h with ⟨c5, h⟩ | ⟨c5, h⟩
    · refine j_tsIn C 50 (1) dX11_cell_11 c5 rfl rfl rfl ?_
      refine j_aload_n C dX11_cell_50 rfl ?_
      refine j_iload_n C dX11_cell_51 rfl ?_
      obtain ⟨p4, ep4, h⟩ := bind_some h
      have qp4 := X11_whatIn_ct ep4
      refine j_cVI C dX11_cell_52 vl_X11_535 CF11 rfl qp4.1 qp4.2 (by omega) rfl rfl (Nat.le_of_ble_eq_true rfl) ?_
      exact j_ri C dX11_cell_55 rfl (Option.some.inj h).symm rfl
    rcases ite_cases h with ⟨c7, h⟩ | ⟨c7, h⟩
    · refine j_tsIn C 56 (2) dX11_cell_11 c7 rfl rfl rfl ?_
      refine j_aload_n C dX11_cell_56 rfl ?_
      refine j_iconst C dX11_cell_57 rfl ?_
      refine j_iload_n C dX11_cell_58 rfl ?_
      obtain ⟨p6, ep6, h⟩ := bind_some h
      have qp6 := X11_opennessOf_ct ep6
      refine j_cVI C dX11_cell_59 vl_X11_473 CF11 rfl qp6.1 qp6.2 (by omega) rfl rfl (Nat.le_of_ble_eq_true rfl) ?_
      exact j_ri C dX11_cell_62 rfl (Option.some.inj h).symm rfl
    rcases ite_cases h with ⟨c9, h⟩ | ⟨c9, h⟩
    · refine j_tsIn C 63 (3) dX11_cell_11 c9 rfl rfl rfl ?_
      refine j_aload_n C dX11_cell_63 rfl ?_
      refine j_iload_n C dX11_cell_64 rfl ?_
      obtain ⟨p8, ep8, h⟩ := bind_some h
      have qp8 := X11_nearHouses_ct ep8
      refine j_cVI C dX11_cell_65 vl_X11_479 CF11 rfl qp8.1 qp8.2 (by omega) rfl rfl (Nat.le_of_ble_eq_true rfl) ?_
      exact j_ri C dX11_cell_68 rfl (Option.some.inj h).symm rfl
    rcases ite_cases h with ⟨c11, h⟩ | ⟨c11, h⟩
    · refine j_tsIn C 69 (4) dX11_cell_11 c11 rfl rfl rfl ?_
      refine j_aload_n C dX11_cell_69 rfl ?_
      refine j_iload_n C dX11_cell_70 rfl ?_
      obtain ⟨p10, ep10, h⟩ := bind_some h
      have qp10 := X11_sunOf_ct ep10
      refine j_cVI C dX11_cell_71 vl_X11_538 CF11 rfl qp10.1 qp10.2 (by omega) rfl rfl (Nat.le_of_ble_eq_true rfl) ?_
      exact j_ri C dX11_cell_74 rfl (Option.some.inj h).symm rfl
    refine j_tsOut C 75 dX11_cell_11 (by omega) rfl ?_
    refine j_iconst C dX11_cell_75 rfl ?_
    exact j_ri C dX11_cell_76 rfl (Option.some.inj h).symm rfl
  · refine j_iconst C dX11_cell_8 rfl ?_
    exact j_ri C dX11_cell_9 rfl (Option.some.inj h).symm rfl
theorem dX11_lex_0 : decode cX11_lex 0 = .ok (.aload_n 0, 1) := by decide +kernel
theorem dX11_lex_1 : decode cX11_lex 1 = .ok (.getfield 48, 3) := by decide +kernel
theorem dX11_lex_4 : decode cX11_lex 4 = .ok (.iconst (-1), 1) := by decide +kernel
theorem dX11_lex_5 : decode cX11_lex 5 = .ok (.if_icmp .eq 12, 3) := by decide +kernel
theorem dX11_lex_8 : decode cX11_lex 8 = .ok (.aload_n 0, 1) := by decide +kernel
theorem dX11_lex_9 : decode cX11_lex 9 = .ok (.iconst 1, 1) := by decide +kernel
theorem dX11_lex_10 : decode cX11_lex 10 = .ok (.aload_n 0, 1) := by decide +kernel
theorem dX11_lex_11 : decode cX11_lex 11 = .ok (.getfield 48, 3) := by decide +kernel
theorem dX11_lex_14 : decode cX11_lex 14 = .ok (.invokevirtual 256, 3) := by decide +kernel
theorem dX11_lex_17 : decode cX11_lex 17 = .ok (.return_, 1) := by decide +kernel
set_option maxRecDepth 100000 in
set_option maxHeartbeats 4000000 in
theorem X11_lex_ct {l0 : Nat} {m : Mem} {out : Mem} (h : X11_lex l0 m = some out) : shK l0 = 11 + 10 ∧ CT yX11_lex cX11_lex 1 none 2 0 0 [vR l0] 312 m none 312 out := by
  unfold X11_lex at h
  obtain ⟨hK, h⟩ := ite_some h
  have hlv : 1 < 2 := by decide
  refine ⟨hK, CT.of (by decide +kernel) rfl (Nat.le_of_ble_eq_true rfl) (ls := [some (vR l0)]) rfl fun g w C _ => ?_⟩
  refine j_aload_n C dX11_lex_0 rfl ?_
  refine j_getI C dX11_lex_1 CF11 (by decide) fl_X11_48 rfl rfl h (fun t1 h => ?_)
  refine j_iconst C dX11_lex_4 rfl ?_
  refine j_icmp_eq C 17 dX11_lex_5 rfl h (fun c4 h => ?_) (fun c4 h => ?_)
  · have e := Option.some.inj h
    subst e
    exact j_rv C dX11_lex_17 rfl rfl
  · refine j_aload_n C dX11_lex_8 rfl ?_
    refine j_iconst C dX11_lex_9 rfl ?_
    refine j_aload_n C dX11_lex_10 rfl ?_
    refine j_getI C dX11_lex_11 CF11 (by decide) fl_X11_48 rfl rfl h (fun t2 h => ?_)
    obtain ⟨p3, ep3, h⟩ := bind_some h
    have qp3 := X11_blame_ct ep3
    refine j_cVV C dX11_lex_14 vl_X11_256 CF11 rfl qp3.1 qp3.2 (by omega) rfl rfl (Nat.le_of_ble_eq_true rfl) ?_
    have e := Option.some.inj h
    subst e
    exact j_rv C dX11_lex_17 rfl rfl
theorem dX11_isWord_0 : decode cX11_isWord 0 = .ok (.aload_n 0, 1) := by decide +kernel
theorem dX11_isWord_1 : decode cX11_isWord 1 = .ok (.getfield 20, 3) := by decide +kernel
theorem dX11_isWord_4 : decode cX11_isWord 4 = .ok (.iconst 1, 1) := by decide +kernel
theorem dX11_isWord_5 : decode cX11_isWord 5 = .ok (.if_icmp .ne 16, 3) := by decide +kernel
theorem dX11_isWord_8 : decode cX11_isWord 8 = .ok (.aload_n 0, 1) := by decide +kernel
theorem dX11_isWord_9 : decode cX11_isWord 9 = .ok (.getfield 32, 3) := by decide +kernel
theorem dX11_isWord_12 : decode cX11_isWord 12 = .ok (.lload_n 1, 1) := by decide +kernel
theorem dX11_isWord_13 : decode cX11_isWord 13 = .ok (.lcmp, 1) := by decide +kernel
theorem dX11_isWord_14 : decode cX11_isWord 14 = .ok (.ifCond .ne 7, 3) := by decide +kernel
theorem dX11_isWord_17 : decode cX11_isWord 17 = .ok (.iconst 1, 1) := by decide +kernel
theorem dX11_isWord_18 : decode cX11_isWord 18 = .ok (.goto 4, 3) := by decide +kernel
theorem dX11_isWord_21 : decode cX11_isWord 21 = .ok (.iconst 0, 1) := by decide +kernel
theorem dX11_isWord_22 : decode cX11_isWord 22 = .ok (.ireturn, 1) := by decide +kernel
set_option maxRecDepth 100000 in
set_option maxHeartbeats 4000000 in
theorem X11_isWord_ct {l0 : Nat} {l1 : Int} {m : Mem} {out : Int} (h : X11_isWord l0 l1 m = some out) : shK l0 = 11 + 10 ∧ CT yX11_isWord cX11_isWord 3 (some .boolean) 1 0 0 [vR l0, vL l1] 312 m (some (vI out)) 312 m := by
  unfold X11_isWord at h
  obtain ⟨hK, h⟩ := ite_some h
  have hlv : 0 < 1 := by decide
  refine ⟨hK, CT.of (by decide +kernel) rfl (Nat.le_of_ble_eq_true rfl) (ls := [some (vR l0), some (vL l1), none]) rfl fun g w C _ => ?_⟩
  refine j_aload_n C dX11_isWord_0 rfl ?_
  refine j_getI C dX11_isWord_1 CF11 (by decide) fl_X11_20 rfl rfl h (fun t1 h => ?_)
  refine j_iconst C dX11_isWord_4 rfl ?_
  refine j_icmp_ne C 21 dX11_isWord_5 rfl h (fun c4 h => ?_) (fun c4 h => ?_)
  · refine j_iconst C dX11_isWord_21 rfl ?_
    exact j_rz C dX11_isWord_22 rfl (retZ_some h) rfl
  · refine j_aload_n C dX11_isWord_8 rfl ?_
    refine j_getL C dX11_isWord_9 CF11 (by decide) fl_X11_32 rfl rfl h (fun t2 h => ?_)
    refine j_lload_n C dX11_isWord_12 rfl ?_
    refine j_lcmp C dX11_isWord_13 ?_
    refine j_if_ne C 21 dX11_isWord_14 rfl h (fun c3 h => ?_) (fun c3 h => ?_)
    · refine j_iconst C dX11_isWord_21 rfl ?_
      exact j_rz C dX11_isWord_22 rfl (retZ_some h) rfl
    · refine j_iconst C dX11_isWord_17 rfl ?_
      refine j_goto C 22 dX11_isWord_18 rfl ?_
      exact j_rz C dX11_isWord_22 rfl (retZ_some h) rfl
theorem dX11_must__0 : decode cX11_must_ 0 = .ok (.aload_n 0, 1) := by decide +kernel
theorem dX11_must__1 : decode cX11_must_ 1 = .ok (.invokevirtual 271, 3) := by decide +kernel
theorem dX11_must__4 : decode cX11_must_ 4 = .ok (.aload_n 0, 1) := by decide +kernel
theorem dX11_must__5 : decode cX11_must_ 5 = .ok (.getfield 36, 3) := by decide +kernel
theorem dX11_must__8 : decode cX11_must_ 8 = .ok (.ifCond .le 4, 3) := by decide +kernel
theorem dX11_must__11 : decode cX11_must_ 11 = .ok (.return_, 1) := by decide +kernel
theorem dX11_must__12 : decode cX11_must_ 12 = .ok (.aload_n 0, 1) := by decide +kernel
theorem dX11_must__13 : decode cX11_must_ 13 = .ok (.lload_n 1, 1) := by decide +kernel
theorem dX11_must__14 : decode cX11_must_ 14 = .ok (.invokevirtual 354, 3) := by decide +kernel
theorem dX11_must__17 : decode cX11_must_ 17 = .ok (.ifCond .ne 12, 3) := by decide +kernel
theorem dX11_must__20 : decode cX11_must_ 20 = .ok (.aload_n 0, 1) := by decide +kernel
theorem dX11_must__21 : decode cX11_must_ 21 = .ok (.iconst 1, 1) := by decide +kernel
theorem dX11_must__22 : decode cX11_must_ 22 = .ok (.aload_n 0, 1) := by decide +kernel
theorem dX11_must__23 : decode cX11_must_ 23 = .ok (.getfield 23, 3) := by decide +kernel
theorem dX11_must__26 : decode cX11_must_ 26 = .ok (.invokevirtual 256, 3) := by decide +kernel
theorem dX11_must__29 : decode cX11_must_ 29 = .ok (.aload_n 0, 1) := by decide +kernel
theorem dX11_must__30 : decode cX11_must_ 30 = .ok (.getfield 36, 3) := by decide +kernel
theorem dX11_must__33 : decode cX11_must_ 33 = .ok (.ifCond .ne 7, 3) := by decide +kernel
theorem dX11_must__36 : decode cX11_must_ 36 = .ok (.aload_n 0, 1) := by decide +kernel
theorem dX11_must__37 : decode cX11_must_ 37 = .ok (.invokevirtual 277, 3) := by decide +kernel
theorem dX11_must__40 : decode cX11_must_ 40 = .ok (.return_, 1) := by decide +kernel
set_option maxRecDepth 100000 in
set_option maxHeartbeats 4000000 in
theorem X11_must__J29_ok {g : Gm} {w : Wd} (C : Cx g w RX11 cX11_must_ 3 none) {lv : Nat} (hlv : 2 < lv) {N : Nat} {l0 : Nat} {m : Mem} {out : Mem} (h : X11_must__J29 N l0 m = some out) : Jd g w 3 (rmL lv 0 0) (Qm g w none out) 29 [some (vR l0), none, none] [] 312 m 0 0 := by
  unfold X11_must__J29 at h
  refine j_aload_n C dX11_must__29 rfl ?_
  refine j_getI C dX11_must__30 CF11 (by decide) fl_X11_36 rfl rfl h (fun t4 h => ?_)
  refine j_if_ne C 40 dX11_must__33 rfl h (fun c6 h => ?_) (fun c6 h => ?_)
  · have e := Option.some.inj h
    subst e
    exact j_rv C dX11_must__40 rfl rfl
  · refine j_aload_n C dX11_must__36 rfl ?_
    obtain ⟨p5, ep5, h⟩ := bind_some h
    have qp5 := X11_ahead_ct ep5
    refine j_cVV C dX11_must__37 vl_X11_277 CF11 rfl qp5.1 qp5.2 (by omega) rfl rfl (Nat.le_of_ble_eq_true rfl) ?_
    have e := Option.some.inj h
    subst e
    exact j_rv C dX11_must__40 rfl rfl
set_option maxRecDepth 100000 in
set_option maxHeartbeats 4000000 in
theorem X11_must__ct {N : Nat} {l0 : Nat} {l1 : Int} {m : Mem} {out : Mem} (h : X11_must_ N l0 l1 m = some out) : shK l0 = 11 + 10 ∧ CT yX11_must_ cX11_must_ 3 none 3 0 0 [vR l0, vL l1] 312 m none 312 out := by
  unfold X11_must_ at h
  obtain ⟨hK, h⟩ := ite_some h
  have hlv : 2 < 3 := by decide
  refine ⟨hK, CT.of (by decide +kernel) rfl (Nat.le_of_ble_eq_true rfl) (ls := [some (vR l0), some (vL l1), none]) rfl fun g w C _ => ?_⟩
  refine j_aload_n C dX11_must__0 rfl ?_
  obtain ⟨p1, ep1, h⟩ := bind_some h
  have qp1 := X11_lex_ct ep1
  refine j_cVV C dX11_must__1 vl_X11_271 CF11 rfl qp1.1 qp1.2 (by omega) rfl rfl (Nat.le_of_ble_eq_true rfl) ?_
  refine j_aload_n C dX11_must__4 rfl ?_
  refine j_getI C dX11_must__5 CF11 (by decide) fl_X11_36 rfl rfl h (fun t2 h => ?_)
  refine j_if_le C 12 dX11_must__8 rfl h (fun c10 h => ?_) (fun c10 h => ?_)
  · refine j_aload_n C dX11_must__12 rfl ?_
    refine j_lload_n C dX11_must__13 rfl ?_
    obtain ⟨p3, ep3, h⟩ := bind_some h
    have qp3 := X11_isWord_ct ep3
    refine j_cVI C dX11_must__14 vl_X11_354 CF11 rfl qp3.1 qp3.2 (by omega) rfl rfl (Nat.le_of_ble_eq_true rfl) ?_
    refine j_if_ne C 29 dX11_must__17 rfl h (fun c9 h => ?_) (fun c9 h => ?_)
    · refine j_mask [true, false, false] (ls' := [some (vR _), none, none]) rfl ?_
      exact X11_must__J29_ok C hlv h
    · refine j_aload_n C dX11_must__20 rfl ?_
      refine j_iconst C dX11_must__21 rfl ?_
      refine j_aload_n C dX11_must__22 rfl ?_
      refine j_getI C dX11_must__23 CF11 (by decide) fl_X11_23 rfl rfl h (fun t7 h => ?_)
      obtain ⟨p8, ep8, h⟩ := bind_some h
      have qp8 := X11_blame_ct ep8
      refine j_cVV C dX11_must__26 vl_X11_256 CF11 rfl qp8.1 qp8.2 (by omega) rfl rfl (Nat.le_of_ble_eq_true rfl) ?_
      refine j_mask [true, false, false] (ls' := [some (vR _), none, none]) rfl ?_
      exact X11_must__J29_ok C hlv h
  · have e := Option.some.inj h
    subst e
    exact j_rv C dX11_must__11 rfl rfl
theorem dX11_looked_0 : decode cX11_looked 0 = .ok (.aload_n 0, 1) := by decide +kernel
theorem dX11_looked_1 : decode cX11_looked 1 = .ok (.invokevirtual 271, 3) := by decide +kernel
theorem dX11_looked_4 : decode cX11_looked 4 = .ok (.aload_n 0, 1) := by decide +kernel
theorem dX11_looked_5 : decode cX11_looked 5 = .ok (.getfield 36, 3) := by decide +kernel
theorem dX11_looked_8 : decode cX11_looked 8 = .ok (.ifCond .le 5, 3) := by decide +kernel
theorem dX11_looked_11 : decode cX11_looked 11 = .ok (.iconst 0, 1) := by decide +kernel
theorem dX11_looked_12 : decode cX11_looked 12 = .ok (.ireturn, 1) := by decide +kernel
theorem dX11_looked_13 : decode cX11_looked 13 = .ok (.aload_n 0, 1) := by decide +kernel
theorem dX11_looked_14 : decode cX11_looked 14 = .ok (.getfield 20, 3) := by decide +kernel
theorem dX11_looked_17 : decode cX11_looked 17 = .ok (.iconst 2, 1) := by decide +kernel
theorem dX11_looked_18 : decode cX11_looked 18 = .ok (.if_icmp .eq 12, 3) := by decide +kernel
theorem dX11_looked_21 : decode cX11_looked 21 = .ok (.aload_n 0, 1) := by decide +kernel
theorem dX11_looked_22 : decode cX11_looked 22 = .ok (.iconst 1, 1) := by decide +kernel
theorem dX11_looked_23 : decode cX11_looked 23 = .ok (.aload_n 0, 1) := by decide +kernel
theorem dX11_looked_24 : decode cX11_looked 24 = .ok (.getfield 23, 3) := by decide +kernel
theorem dX11_looked_27 : decode cX11_looked 27 = .ok (.invokevirtual 256, 3) := by decide +kernel
theorem dX11_looked_30 : decode cX11_looked 30 = .ok (.aload_n 0, 1) := by decide +kernel
theorem dX11_looked_31 : decode cX11_looked 31 = .ok (.getfield 36, 3) := by decide +kernel
theorem dX11_looked_34 : decode cX11_looked 34 = .ok (.ifCond .ne 24, 3) := by decide +kernel
theorem dX11_looked_37 : decode cX11_looked 37 = .ok (.aload_n 0, 1) := by decide +kernel
theorem dX11_looked_38 : decode cX11_looked 38 = .ok (.getfield 29, 3) := by decide +kernel
theorem dX11_looked_41 : decode cX11_looked 41 = .ok (.iload_n 1, 1) := by decide +kernel
theorem dX11_looked_42 : decode cX11_looked 42 = .ok (.iload_n 2, 1) := by decide +kernel
theorem dX11_looked_43 : decode cX11_looked 43 = .ok (.invokestatic 334, 3) := by decide +kernel
theorem dX11_looked_46 : decode cX11_looked 46 = .ok (.ifCond .ne 12, 3) := by decide +kernel
theorem dX11_looked_49 : decode cX11_looked 49 = .ok (.aload_n 0, 1) := by decide +kernel
theorem dX11_looked_50 : decode cX11_looked 50 = .ok (.iconst 4, 1) := by decide +kernel
theorem dX11_looked_51 : decode cX11_looked 51 = .ok (.aload_n 0, 1) := by decide +kernel
theorem dX11_looked_52 : decode cX11_looked 52 = .ok (.getfield 23, 3) := by decide +kernel
theorem dX11_looked_55 : decode cX11_looked 55 = .ok (.invokevirtual 256, 3) := by decide +kernel
theorem dX11_looked_58 : decode cX11_looked 58 = .ok (.aload_n 0, 1) := by decide +kernel
theorem dX11_looked_59 : decode cX11_looked 59 = .ok (.getfield 36, 3) := by decide +kernel
theorem dX11_looked_62 : decode cX11_looked 62 = .ok (.ifCond .le 7, 3) := by decide +kernel
theorem dX11_looked_65 : decode cX11_looked 65 = .ok (.iconst 0, 1) := by decide +kernel
theorem dX11_looked_66 : decode cX11_looked 66 = .ok (.goto 7, 3) := by decide +kernel
theorem dX11_looked_69 : decode cX11_looked 69 = .ok (.aload_n 0, 1) := by decide +kernel
theorem dX11_looked_70 : decode cX11_looked 70 = .ok (.getfield 29, 3) := by decide +kernel
theorem dX11_looked_73 : decode cX11_looked 73 = .ok (.ireturn, 1) := by decide +kernel
set_option maxRecDepth 100000 in
set_option maxHeartbeats 4000000 in
theorem X11_looked_J58_ok {g : Gm} {w : Wd} (C : Cx g w RX11 cX11_looked 3 (some .int)) {lv : Nat} (hlv : 2 < lv) {l0 : Nat} {m : Mem} {out : (Int × Mem)} (h : X11_looked_J58 l0 m = some out) : Jd g w 3 (rmL lv 0 0) (Qm g w (some (vI out.1)) out.2) 58 [some (vR l0), none, none] [] 312 m 0 0 := by
  unfold X11_looked_J58 at h
  refine j_aload_n C dX11_looked_58 rfl ?_
  refine j_getI C dX11_looked_59 CF11 (by decide) fl_X11_36 rfl rfl h (fun t5 h => ?_)
  refine j_if_le C 69 dX11_looked_62 rfl h (fun c7 h => ?_) (fun c7 h => ?_)
  · refine j_aload_n C dX11_looked_69 rfl ?_
    refine j_getI C dX11_looked_70 CF11 (by decide) fl_X11_29 rfl rfl h (fun t6 h => ?_)
    have e := Option.some.inj h
    subst e
    exact j_ri C dX11_looked_73 rfl rfl rfl
  · refine j_iconst C dX11_looked_65 rfl ?_
    refine j_goto C 73 dX11_looked_66 rfl ?_
    have e := Option.some.inj h
    subst e
    exact j_ri C dX11_looked_73 rfl rfl rfl
set_option maxRecDepth 100000 in
set_option maxHeartbeats 4000000 in
theorem X11_looked_J30_ok {g : Gm} {w : Wd} (C : Cx g w RX11 cX11_looked 3 (some .int)) {lv : Nat} (hlv : 2 < lv) {l0 : Nat} {l1 : Int} {l2 : Int} {m : Mem} {out : (Int × Mem)} (h : X11_looked_J30 l0 l1 l2 m = some out) : Jd g w 3 (rmL lv 0 0) (Qm g w (some (vI out.1)) out.2) 30 [some (vR l0), some (vI l1), some (vI l2)] [] 312 m 0 0 := by
  unfold X11_looked_J30 at h
  refine j_aload_n C dX11_looked_30 rfl ?_
  refine j_getI C dX11_looked_31 CF11 (by decide) fl_X11_36 rfl rfl h (fun t4 h => ?_)
  refine j_if_ne C 58 dX11_looked_34 rfl h (fun c13 h => ?_) (fun c13 h => ?_)
  · refine j_mask [true, false, false] (ls' := [some (vR _), none, none]) rfl ?_
    exact X11_looked_J58_ok C hlv h
  · refine j_aload_n C dX11_looked_37 rfl ?_
    refine j_getI C dX11_looked_38 CF11 (by decide) fl_X11_29 rfl rfl h (fun t8 h => ?_)
    refine j_iload_n C dX11_looked_41 rfl ?_
    refine j_iload_n C dX11_looked_42 rfl ?_
    obtain ⟨p9, ep9, h⟩ := bind_some h
    have qp9 := X11_is_ct ep9
    refine j_cSI C dX11_looked_43 sl_X11_334 qp9 (by omega) rfl rfl (Nat.le_of_ble_eq_true rfl) ?_
    refine j_if_ne C 58 dX11_looked_46 rfl h (fun c12 h => ?_) (fun c12 h => ?_)
    · refine j_mask [true, false, false] (ls' := [some (vR _), none, none]) rfl ?_
      exact X11_looked_J58_ok C hlv h
    · refine j_aload_n C dX11_looked_49 rfl ?_
      refine j_iconst C dX11_looked_50 rfl ?_
      refine j_aload_n C dX11_looked_51 rfl ?_
      refine j_getI C dX11_looked_52 CF11 (by decide) fl_X11_23 rfl rfl h (fun t10 h => ?_)
      obtain ⟨p11, ep11, h⟩ := bind_some h
      have qp11 := X11_blame_ct ep11
      refine j_cVV C dX11_looked_55 vl_X11_256 CF11 rfl qp11.1 qp11.2 (by omega) rfl rfl (Nat.le_of_ble_eq_true rfl) ?_
      refine j_mask [true, false, false] (ls' := [some (vR _), none, none]) rfl ?_
      exact X11_looked_J58_ok C hlv h
set_option maxRecDepth 100000 in
set_option maxHeartbeats 4000000 in
theorem X11_looked_ct {l0 : Nat} {l1 : Int} {l2 : Int} {m : Mem} {out : (Int × Mem)} (h : X11_looked l0 l1 l2 m = some out) : shK l0 = 11 + 10 ∧ CT yX11_looked cX11_looked 3 (some .int) 3 0 0 [vR l0, vI l1, vI l2] 312 m (some (vI out.1)) 312 out.2 := by
  unfold X11_looked at h
  obtain ⟨hK, h⟩ := ite_some h
  have hlv : 2 < 3 := by decide
  refine ⟨hK, CT.of (by decide +kernel) rfl (Nat.le_of_ble_eq_true rfl) (ls := [some (vR l0), some (vI l1), some (vI l2)]) rfl fun g w C _ => ?_⟩
  refine j_aload_n C dX11_looked_0 rfl ?_
  obtain ⟨p1, ep1, h⟩ := bind_some h
  have qp1 := X11_lex_ct ep1
  refine j_cVV C dX11_looked_1 vl_X11_271 CF11 rfl qp1.1 qp1.2 (by omega) rfl rfl (Nat.le_of_ble_eq_true rfl) ?_
  refine j_aload_n C dX11_looked_4 rfl ?_
  refine j_getI C dX11_looked_5 CF11 (by decide) fl_X11_36 rfl rfl h (fun t2 h => ?_)
  refine j_if_le C 13 dX11_looked_8 rfl h (fun c17 h => ?_) (fun c17 h => ?_)
  · refine j_aload_n C dX11_looked_13 rfl ?_
    refine j_getI C dX11_looked_14 CF11 (by decide) fl_X11_20 rfl rfl h (fun t3 h => ?_)
    refine j_iconst C dX11_looked_17 rfl ?_
    refine j_icmp_eq C 30 dX11_looked_18 rfl h (fun c16 h => ?_) (fun c16 h => ?_)
    · exact X11_looked_J30_ok C hlv h
    · refine j_aload_n C dX11_looked_21 rfl ?_
      refine j_iconst C dX11_looked_22 rfl ?_
      refine j_aload_n C dX11_looked_23 rfl ?_
      refine j_getI C dX11_looked_24 CF11 (by decide) fl_X11_23 rfl rfl h (fun t14 h => ?_)
      obtain ⟨p15, ep15, h⟩ := bind_some h
      have qp15 := X11_blame_ct ep15
      refine j_cVV C dX11_looked_27 vl_X11_256 CF11 rfl qp15.1 qp15.2 (by omega) rfl rfl (Nat.le_of_ble_eq_true rfl) ?_
      exact X11_looked_J30_ok C hlv h
  · refine j_iconst C dX11_looked_11 rfl ?_
    have e := Option.some.inj h
    subst e
    exact j_ri C dX11_looked_12 rfl rfl rfl
theorem dX11_number_0 : decode cX11_number 0 = .ok (.aload_n 0, 1) := by decide +kernel
theorem dX11_number_1 : decode cX11_number 1 = .ok (.iload_n 1, 1) := by decide +kernel
theorem dX11_number_2 : decode cX11_number 2 = .ok (.iload_n 2, 1) := by decide +kernel
theorem dX11_number_3 : decode cX11_number 3 = .ok (.invokevirtual 338, 3) := by decide +kernel
theorem dX11_number_6 : decode cX11_number 6 = .ok (.istore_n 3, 1) := by decide +kernel
theorem dX11_number_7 : decode cX11_number 7 = .ok (.aload_n 0, 1) := by decide +kernel
theorem dX11_number_8 : decode cX11_number 8 = .ok (.getfield 36, 3) := by decide +kernel
theorem dX11_number_11 : decode cX11_number 11 = .ok (.ifCond .ne 7, 3) := by decide +kernel
theorem dX11_number_14 : decode cX11_number 14 = .ok (.aload_n 0, 1) := by decide +kernel
theorem dX11_number_15 : decode cX11_number 15 = .ok (.invokevirtual 277, 3) := by decide +kernel
theorem dX11_number_18 : decode cX11_number 18 = .ok (.iload_n 3, 1) := by decide +kernel
theorem dX11_number_19 : decode cX11_number 19 = .ok (.ireturn, 1) := by decide +kernel
set_option maxRecDepth 100000 in
set_option maxHeartbeats 4000000 in
theorem X11_number_ct {N : Nat} {l0 : Nat} {l1 : Int} {l2 : Int} {m : Mem} {out : (Int × Mem)} (h : X11_number N l0 l1 l2 m = some out) : shK l0 = 11 + 10 ∧ CT yX11_number cX11_number 4 (some .int) 4 0 0 [vR l0, vI l1, vI l2] 312 m (some (vI out.1)) 312 out.2 := by
  unfold X11_number at h
  obtain ⟨hK, h⟩ := ite_some h
  have hlv : 3 < 4 := by decide
  refine ⟨hK, CT.of (by decide +kernel) rfl (Nat.le_of_ble_eq_true rfl) (ls := [some (vR l0), some (vI l1), some (vI l2), none]) rfl fun g w C _ => ?_⟩
  refine j_aload_n C dX11_number_0 rfl ?_
  refine j_iload_n C dX11_number_1 rfl ?_
  refine j_iload_n C dX11_number_2 rfl ?_
  obtain ⟨p1, ep1, h⟩ := bind_some h
  have qp1 := X11_looked_ct ep1
  refine j_cVI C dX11_number_3 vl_X11_338 CF11 rfl qp1.1 qp1.2 (by omega) rfl rfl (Nat.le_of_ble_eq_true rfl) ?_
  refine j_istore_n (ls' := [some (vR _), some (vI _), some (vI _), some (vI _)]) C dX11_number_6 (by decide) rfl ?_
  refine j_aload_n C dX11_number_7 rfl ?_
  refine j_getI C dX11_number_8 CF11 (by decide) fl_X11_36 rfl rfl h (fun t2 h => ?_)
  refine j_if_ne C 18 dX11_number_11 rfl h (fun c4 h => ?_) (fun c4 h => ?_)
  · refine j_iload_n C dX11_number_18 rfl ?_
    have e := Option.some.inj h
    subst e
    exact j_ri C dX11_number_19 rfl rfl rfl
  · refine j_aload_n C dX11_number_14 rfl ?_
    obtain ⟨p3, ep3, h⟩ := bind_some h
    have qp3 := X11_ahead_ct ep3
    refine j_cVV C dX11_number_15 vl_X11_277 CF11 rfl qp3.1 qp3.2 (by omega) rfl rfl (Nat.le_of_ble_eq_true rfl) ?_
    refine j_iload_n C dX11_number_18 rfl ?_
    have e := Option.some.inj h
    subst e
    exact j_ri C dX11_number_19 rfl rfl rfl
theorem dX11_isFreeTold_0 : decode cX11_isFreeTold 0 = .ok (.aload_n 0, 1) := by decide +kernel
theorem dX11_isFreeTold_1 : decode cX11_isFreeTold 1 = .ok (.getfield 63, 3) := by decide +kernel
theorem dX11_isFreeTold_4 : decode cX11_isFreeTold 4 = .ok (.bipush 42, 2) := by decide +kernel
theorem dX11_isFreeTold_6 : decode cX11_isFreeTold 6 = .ok (.aload_n 0, 1) := by decide +kernel
theorem dX11_isFreeTold_7 : decode cX11_isFreeTold 7 = .ok (.getfield 133, 3) := by decide +kernel
theorem dX11_isFreeTold_10 : decode cX11_isFreeTold 10 = .ok (.imul, 1) := by decide +kernel
theorem dX11_isFreeTold_11 : decode cX11_isFreeTold 11 = .ok (.iload_n 1, 1) := by decide +kernel
theorem dX11_isFreeTold_12 : decode cX11_isFreeTold 12 = .ok (.iadd, 1) := by decide +kernel
theorem dX11_isFreeTold_13 : decode cX11_isFreeTold 13 = .ok (.iaload, 1) := by decide +kernel
theorem dX11_isFreeTold_14 : decode cX11_isFreeTold 14 = .ok (.iconst 1, 1) := by decide +kernel
theorem dX11_isFreeTold_15 : decode cX11_isFreeTold 15 = .ok (.if_icmp .eq 21, 3) := by decide +kernel
theorem dX11_isFreeTold_18 : decode cX11_isFreeTold 18 = .ok (.aload_n 0, 1) := by decide +kernel
theorem dX11_isFreeTold_19 : decode cX11_isFreeTold 19 = .ok (.getfield 66, 3) := by decide +kernel
theorem dX11_isFreeTold_22 : decode cX11_isFreeTold 22 = .ok (.bipush 42, 2) := by decide +kernel
theorem dX11_isFreeTold_24 : decode cX11_isFreeTold 24 = .ok (.aload_n 0, 1) := by decide +kernel
theorem dX11_isFreeTold_25 : decode cX11_isFreeTold 25 = .ok (.getfield 133, 3) := by decide +kernel
theorem dX11_isFreeTold_28 : decode cX11_isFreeTold 28 = .ok (.imul, 1) := by decide +kernel
theorem dX11_isFreeTold_29 : decode cX11_isFreeTold 29 = .ok (.iload_n 1, 1) := by decide +kernel
theorem dX11_isFreeTold_30 : decode cX11_isFreeTold 30 = .ok (.iadd, 1) := by decide +kernel
theorem dX11_isFreeTold_31 : decode cX11_isFreeTold 31 = .ok (.iaload, 1) := by decide +kernel
theorem dX11_isFreeTold_32 : decode cX11_isFreeTold 32 = .ok (.iconst 1, 1) := by decide +kernel
theorem dX11_isFreeTold_33 : decode cX11_isFreeTold 33 = .ok (.if_icmp .ne 5, 3) := by decide +kernel
theorem dX11_isFreeTold_36 : decode cX11_isFreeTold 36 = .ok (.iconst 0, 1) := by decide +kernel
theorem dX11_isFreeTold_37 : decode cX11_isFreeTold 37 = .ok (.ireturn, 1) := by decide +kernel
theorem dX11_isFreeTold_38 : decode cX11_isFreeTold 38 = .ok (.iconst 0, 1) := by decide +kernel
theorem dX11_isFreeTold_39 : decode cX11_isFreeTold 39 = .ok (.istore_n 2, 1) := by decide +kernel
theorem dX11_isFreeTold_40 : decode cX11_isFreeTold 40 = .ok (.iload_n 2, 1) := by decide +kernel
theorem dX11_isFreeTold_41 : decode cX11_isFreeTold 41 = .ok (.aload_n 0, 1) := by decide +kernel
theorem dX11_isFreeTold_42 : decode cX11_isFreeTold 42 = .ok (.getfield 75, 3) := by decide +kernel
theorem dX11_isFreeTold_45 : decode cX11_isFreeTold 45 = .ok (.aload_n 0, 1) := by decide +kernel
theorem dX11_isFreeTold_46 : decode cX11_isFreeTold 46 = .ok (.getfield 133, 3) := by decide +kernel
theorem dX11_isFreeTold_49 : decode cX11_isFreeTold 49 = .ok (.iaload, 1) := by decide +kernel
theorem dX11_isFreeTold_50 : decode cX11_isFreeTold 50 = .ok (.if_icmp .ge 28, 3) := by decide +kernel
theorem dX11_isFreeTold_53 : decode cX11_isFreeTold 53 = .ok (.aload_n 0, 1) := by decide +kernel
theorem dX11_isFreeTold_54 : decode cX11_isFreeTold 54 = .ok (.getfield 78, 3) := by decide +kernel
theorem dX11_isFreeTold_57 : decode cX11_isFreeTold 57 = .ok (.iconst 5, 1) := by decide +kernel
theorem dX11_isFreeTold_58 : decode cX11_isFreeTold 58 = .ok (.aload_n 0, 1) := by decide +kernel
theorem dX11_isFreeTold_59 : decode cX11_isFreeTold 59 = .ok (.getfield 133, 3) := by decide +kernel
theorem dX11_isFreeTold_62 : decode cX11_isFreeTold 62 = .ok (.imul, 1) := by decide +kernel
theorem dX11_isFreeTold_63 : decode cX11_isFreeTold 63 = .ok (.iload_n 2, 1) := by decide +kernel
theorem dX11_isFreeTold_64 : decode cX11_isFreeTold 64 = .ok (.iadd, 1) := by decide +kernel
theorem dX11_isFreeTold_65 : decode cX11_isFreeTold 65 = .ok (.iaload, 1) := by decide +kernel
theorem dX11_isFreeTold_66 : decode cX11_isFreeTold 66 = .ok (.iload_n 1, 1) := by decide +kernel
theorem dX11_isFreeTold_67 : decode cX11_isFreeTold 67 = .ok (.if_icmp .ne 5, 3) := by decide +kernel
theorem dX11_isFreeTold_70 : decode cX11_isFreeTold 70 = .ok (.iconst 0, 1) := by decide +kernel
theorem dX11_isFreeTold_71 : decode cX11_isFreeTold 71 = .ok (.ireturn, 1) := by decide +kernel
theorem dX11_isFreeTold_72 : decode cX11_isFreeTold 72 = .ok (.iinc 2 1, 3) := by decide +kernel
theorem dX11_isFreeTold_75 : decode cX11_isFreeTold 75 = .ok (.goto (-35), 3) := by decide +kernel
theorem dX11_isFreeTold_78 : decode cX11_isFreeTold 78 = .ok (.iconst 0, 1) := by decide +kernel
theorem dX11_isFreeTold_79 : decode cX11_isFreeTold 79 = .ok (.istore_n 2, 1) := by decide +kernel
theorem dX11_isFreeTold_80 : decode cX11_isFreeTold 80 = .ok (.iload_n 2, 1) := by decide +kernel
theorem dX11_isFreeTold_81 : decode cX11_isFreeTold 81 = .ok (.aload_n 0, 1) := by decide +kernel
theorem dX11_isFreeTold_82 : decode cX11_isFreeTold 82 = .ok (.getfield 81, 3) := by decide +kernel
theorem dX11_isFreeTold_85 : decode cX11_isFreeTold 85 = .ok (.aload_n 0, 1) := by decide +kernel
theorem dX11_isFreeTold_86 : decode cX11_isFreeTold 86 = .ok (.getfield 133, 3) := by decide +kernel
theorem dX11_isFreeTold_89 : decode cX11_isFreeTold 89 = .ok (.iaload, 1) := by decide +kernel
theorem dX11_isFreeTold_90 : decode cX11_isFreeTold 90 = .ok (.if_icmp .ge 29, 3) := by decide +kernel
theorem dX11_isFreeTold_93 : decode cX11_isFreeTold 93 = .ok (.aload_n 0, 1) := by decide +kernel
theorem dX11_isFreeTold_94 : decode cX11_isFreeTold 94 = .ok (.getfield 90, 3) := by decide +kernel
theorem dX11_isFreeTold_97 : decode cX11_isFreeTold 97 = .ok (.bipush 10, 2) := by decide +kernel
theorem dX11_isFreeTold_99 : decode cX11_isFreeTold 99 = .ok (.aload_n 0, 1) := by decide +kernel
theorem dX11_isFreeTold_100 : decode cX11_isFreeTold 100 = .ok (.getfield 133, 3) := by decide +kernel
theorem dX11_isFreeTold_103 : decode cX11_isFreeTold 103 = .ok (.imul, 1) := by decide +kernel
theorem dX11_isFreeTold_104 : decode cX11_isFreeTold 104 = .ok (.iload_n 2, 1) := by decide +kernel
theorem dX11_isFreeTold_105 : decode cX11_isFreeTold 105 = .ok (.iadd, 1) := by decide +kernel
theorem dX11_isFreeTold_106 : decode cX11_isFreeTold 106 = .ok (.iaload, 1) := by decide +kernel
theorem dX11_isFreeTold_107 : decode cX11_isFreeTold 107 = .ok (.iload_n 1, 1) := by decide +kernel
theorem dX11_isFreeTold_108 : decode cX11_isFreeTold 108 = .ok (.if_icmp .ne 5, 3) := by decide +kernel
theorem dX11_isFreeTold_111 : decode cX11_isFreeTold 111 = .ok (.iconst 0, 1) := by decide +kernel
theorem dX11_isFreeTold_112 : decode cX11_isFreeTold 112 = .ok (.ireturn, 1) := by decide +kernel
theorem dX11_isFreeTold_113 : decode cX11_isFreeTold 113 = .ok (.iinc 2 1, 3) := by decide +kernel
theorem dX11_isFreeTold_116 : decode cX11_isFreeTold 116 = .ok (.goto (-36), 3) := by decide +kernel
theorem dX11_isFreeTold_119 : decode cX11_isFreeTold 119 = .ok (.iconst 1, 1) := by decide +kernel
theorem dX11_isFreeTold_120 : decode cX11_isFreeTold 120 = .ok (.ireturn, 1) := by decide +kernel
set_option maxRecDepth 100000 in
set_option maxHeartbeats 4000000 in
theorem X11_isFreeTold_L40_bok {g : Gm} {w : Wd} (C : Cx g w RX11 cX11_isFreeTold 3 (some .boolean)) {lv : Nat} (hlv : 0 < lv) {N : Nat} {k78 : Nat → Int → Option Int} {r40 : Nat → Int → Int → Option Int} {l0 : Nat} {l1 : Int} {l2 : Int} {m : Mem} {out : Int} (hk78 : ∀ l0 l1, k78 l0 l1 = some out → Jd g w 3 (rmL lv 0 0) (Qm g w (some (vI out)) m) 78 [some (vR l0), some (vI l1), none] [] 312 m 0 0) (hr40 : ∀ l0 l1 l2, r40 l0 l1 l2 = some out → Jd g w 3 (rmL lv 0 0) (Qm g w (some (vI out)) m) 40 [some (vR l0), some (vI l1), some (vI l2)] [] 312 m 0 0) (h : X11_isFreeTold_L40_b N k78 m r40 l0 l1 l2 = some out) : Jd g w 3 (rmL lv 0 0) (Qm g w (some (vI out)) m) 40 [some (vR l0), some (vI l1), some (vI l2)] [] 312 m 0 0 := by
  unfold X11_isFreeTold_L40_b at h
  refine j_iload_n C dX11_isFreeTold_40 rfl ?_
  refine j_aload_n C dX11_isFreeTold_41 rfl ?_
  refine j_getR C dX11_isFreeTold_42 CF11 (by decide) fl_X11_75 rfl rfl h (fun t7 h => ?_)
  refine j_aload_n C dX11_isFreeTold_45 rfl ?_
  refine j_getI C dX11_isFreeTold_46 CF11 (by decide) fl_X11_133 rfl rfl h (fun t8 h => ?_)
  refine j_iald C dX11_isFreeTold_49 rfl h (fun t9 h => ?_)
  refine j_icmp_ge C 78 dX11_isFreeTold_50 rfl h (fun c14 h => ?_) (fun c14 h => ?_)
  · refine j_mask [true, true, false] (ls' := [some (vR _), some (vI _), none]) rfl ?_
    exact hk78 _ _ h
  · refine j_aload_n C dX11_isFreeTold_53 rfl ?_
    refine j_getR C dX11_isFreeTold_54 CF11 (by decide) fl_X11_78 rfl rfl h (fun t10 h => ?_)
    refine j_iconst C dX11_isFreeTold_57 rfl ?_
    refine j_aload_n C dX11_isFreeTold_58 rfl ?_
    refine j_getI C dX11_isFreeTold_59 CF11 (by decide) fl_X11_133 rfl rfl h (fun t11 h => ?_)
    refine j_imul C dX11_isFreeTold_62 ?_
    refine j_iload_n C dX11_isFreeTold_63 rfl ?_
    refine j_iadd C dX11_isFreeTold_64 ?_
    refine j_iald C dX11_isFreeTold_65 rfl h (fun t12 h => ?_)
    refine j_iload_n C dX11_isFreeTold_66 rfl ?_
    refine j_icmp_ne C 72 dX11_isFreeTold_67 rfl h (fun c13 h => ?_) (fun c13 h => ?_)
    · refine j_iinc (ls' := [some (vR _), some (vI _), some (vI _)]) C dX11_isFreeTold_72 rfl (by decide) rfl ?_
      refine j_goto C 40 dX11_isFreeTold_75 rfl ?_
      exact hr40 _ _ _ h
    · refine j_iconst C dX11_isFreeTold_70 rfl ?_
      exact j_rz C dX11_isFreeTold_71 rfl (retZ_some h) rfl
set_option maxRecDepth 100000 in
set_option maxHeartbeats 4000000 in
theorem X11_isFreeTold_L40_ok {g : Gm} {w : Wd} (C : Cx g w RX11 cX11_isFreeTold 3 (some .boolean)) {lv : Nat} (hlv : 0 < lv) {N : Nat} {k78 : Nat → Int → Option Int} {m : Mem} {out : Int} (hk78 : ∀ l0 l1, k78 l0 l1 = some out → Jd g w 3 (rmL lv 0 0) (Qm g w (some (vI out)) m) 78 [some (vR l0), some (vI l1), none] [] 312 m 0 0) (f : Nat) : ∀ {l0 : Nat} {l1 : Int} {l2 : Int}, X11_isFreeTold_L40 N k78 m f l0 l1 l2 = some out → Jd g w 3 (rmL lv 0 0) (Qm g w (some (vI out)) m) 40 [some (vR l0), some (vI l1), some (vI l2)] [] 312 m 0 0 := by
  induction f with
  | zero => intro l0 l1 l2 h; exact none_ne (α := Int) h
  | succ f ih => intro l0 l1 l2 h; exact X11_isFreeTold_L40_bok C hlv hk78 (fun l0 l1 l2 h => ih h) h
set_option maxRecDepth 100000 in
set_option maxHeartbeats 4000000 in
theorem X11_isFreeTold_L80_bok {g : Gm} {w : Wd} (C : Cx g w RX11 cX11_isFreeTold 3 (some .boolean)) {lv : Nat} (hlv : 0 < lv) {N : Nat} {r80 : Nat → Int → Int → Option Int} {l0 : Nat} {l1 : Int} {l2 : Int} {m : Mem} {out : Int} (hr80 : ∀ l0 l1 l2, r80 l0 l1 l2 = some out → Jd g w 3 (rmL lv 0 0) (Qm g w (some (vI out)) m) 80 [some (vR l0), some (vI l1), some (vI l2)] [] 312 m 0 0) (h : X11_isFreeTold_L80_b N m r80 l0 l1 l2 = some out) : Jd g w 3 (rmL lv 0 0) (Qm g w (some (vI out)) m) 80 [some (vR l0), some (vI l1), some (vI l2)] [] 312 m 0 0 := by
  unfold X11_isFreeTold_L80_b at h
  refine j_iload_n C dX11_isFreeTold_80 rfl ?_
  refine j_aload_n C dX11_isFreeTold_81 rfl ?_
  refine j_getR C dX11_isFreeTold_82 CF11 (by decide) fl_X11_81 rfl rfl h (fun t17 h => ?_)
  refine j_aload_n C dX11_isFreeTold_85 rfl ?_
  refine j_getI C dX11_isFreeTold_86 CF11 (by decide) fl_X11_133 rfl rfl h (fun t18 h => ?_)
  refine j_iald C dX11_isFreeTold_89 rfl h (fun t19 h => ?_)
  refine j_icmp_ge C 119 dX11_isFreeTold_90 rfl h (fun c24 h => ?_) (fun c24 h => ?_)
  · refine j_iconst C dX11_isFreeTold_119 rfl ?_
    exact j_rz C dX11_isFreeTold_120 rfl (retZ_some h) rfl
  · refine j_aload_n C dX11_isFreeTold_93 rfl ?_
    refine j_getR C dX11_isFreeTold_94 CF11 (by decide) fl_X11_90 rfl rfl h (fun t20 h => ?_)
    refine j_bipush C dX11_isFreeTold_97 rfl ?_
    refine j_aload_n C dX11_isFreeTold_99 rfl ?_
    refine j_getI C dX11_isFreeTold_100 CF11 (by decide) fl_X11_133 rfl rfl h (fun t21 h => ?_)
    refine j_imul C dX11_isFreeTold_103 ?_
    refine j_iload_n C dX11_isFreeTold_104 rfl ?_
    refine j_iadd C dX11_isFreeTold_105 ?_
    refine j_iald C dX11_isFreeTold_106 rfl h (fun t22 h => ?_)
    refine j_iload_n C dX11_isFreeTold_107 rfl ?_
    refine j_icmp_ne C 113 dX11_isFreeTold_108 rfl h (fun c23 h => ?_) (fun c23 h => ?_)
    · refine j_iinc (ls' := [some (vR _), some (vI _), some (vI _)]) C dX11_isFreeTold_113 rfl (by decide) rfl ?_
      refine j_goto C 80 dX11_isFreeTold_116 rfl ?_
      exact hr80 _ _ _ h
    · refine j_iconst C dX11_isFreeTold_111 rfl ?_
      exact j_rz C dX11_isFreeTold_112 rfl (retZ_some h) rfl
set_option maxRecDepth 100000 in
set_option maxHeartbeats 4000000 in
theorem X11_isFreeTold_L80_ok {g : Gm} {w : Wd} (C : Cx g w RX11 cX11_isFreeTold 3 (some .boolean)) {lv : Nat} (hlv : 0 < lv) {N : Nat} {m : Mem} {out : Int} (f : Nat) : ∀ {l0 : Nat} {l1 : Int} {l2 : Int}, X11_isFreeTold_L80 N m f l0 l1 l2 = some out → Jd g w 3 (rmL lv 0 0) (Qm g w (some (vI out)) m) 80 [some (vR l0), some (vI l1), some (vI l2)] [] 312 m 0 0 := by
  induction f with
  | zero => intro l0 l1 l2 h; exact none_ne (α := Int) h
  | succ f ih => intro l0 l1 l2 h; exact X11_isFreeTold_L80_bok C hlv (fun l0 l1 l2 h => ih h) h
set_option maxRecDepth 100000 in
set_option maxHeartbeats 4000000 in
theorem X11_isFreeTold_ct {N : Nat} {l0 : Nat} {l1 : Int} {m : Mem} {out : Int} (h : X11_isFreeTold N l0 l1 m = some out) : shK l0 = 11 + 10 ∧ CT yX11_isFreeTold cX11_isFreeTold 3 (some .boolean) 1 0 0 [vR l0, vI l1] 312 m (some (vI out)) 312 m := by
  unfold X11_isFreeTold at h
  obtain ⟨hK, h⟩ := ite_some h
  have hlv : 0 < 1 := by decide
  refine ⟨hK, CT.of (by decide +kernel) rfl (Nat.le_of_ble_eq_true rfl) (ls := [some (vR l0), some (vI l1), none]) rfl fun g w C _ => ?_⟩
  refine j_aload_n C dX11_isFreeTold_0 rfl ?_
  refine j_getR C dX11_isFreeTold_1 CF11 (by decide) fl_X11_63 rfl rfl h (fun t1 h => ?_)
  refine j_bipush C dX11_isFreeTold_4 rfl ?_
  refine j_aload_n C dX11_isFreeTold_6 rfl ?_
  refine j_getI C dX11_isFreeTold_7 CF11 (by decide) fl_X11_133 rfl rfl h (fun t2 h => ?_)
  refine j_imul C dX11_isFreeTold_10 ?_
  refine j_iload_n C dX11_isFreeTold_11 rfl ?_
  refine j_iadd C dX11_isFreeTold_12 ?_
  refine j_iald C dX11_isFreeTold_13 rfl h (fun t3 h => ?_)
  refine j_iconst C dX11_isFreeTold_14 rfl ?_
  refine j_icmp_eq C 36 dX11_isFreeTold_15 rfl h (fun c26 h => ?_) (fun c26 h => ?_)
  · refine j_iconst C dX11_isFreeTold_36 rfl ?_
    exact j_rz C dX11_isFreeTold_37 rfl (retZ_some h) rfl
  · refine j_aload_n C dX11_isFreeTold_18 rfl ?_
    refine j_getR C dX11_isFreeTold_19 CF11 (by decide) fl_X11_66 rfl rfl h (fun t4 h => ?_)
    refine j_bipush C dX11_isFreeTold_22 rfl ?_
    refine j_aload_n C dX11_isFreeTold_24 rfl ?_
    refine j_getI C dX11_isFreeTold_25 CF11 (by decide) fl_X11_133 rfl rfl h (fun t5 h => ?_)
    refine j_imul C dX11_isFreeTold_28 ?_
    refine j_iload_n C dX11_isFreeTold_29 rfl ?_
    refine j_iadd C dX11_isFreeTold_30 ?_
    refine j_iald C dX11_isFreeTold_31 rfl h (fun t6 h => ?_)
    refine j_iconst C dX11_isFreeTold_32 rfl ?_
    refine j_icmp_ne C 38 dX11_isFreeTold_33 rfl h (fun c25 h => ?_) (fun c25 h => ?_)
    · refine j_iconst C dX11_isFreeTold_38 rfl ?_
      refine j_istore_n (ls' := [some (vR _), some (vI _), some (vI _)]) C dX11_isFreeTold_39 (by decide) rfl ?_
      refine X11_isFreeTold_L40_ok C hlv (fun z15 z16 h => ?_) N h
      refine j_iconst C dX11_isFreeTold_78 rfl ?_
      refine j_istore_n (ls' := [some (vR _), some (vI _), some (vI _)]) C dX11_isFreeTold_79 (by decide) rfl ?_
      exact X11_isFreeTold_L80_ok C hlv N h
    · refine j_iconst C dX11_isFreeTold_36 rfl ?_
      exact j_rz C dX11_isFreeTold_37 rfl (retZ_some h) rfl
theorem dX11_cellAt_0 : decode cX11_cellAt 0 = .ok (.aload_n 0, 1) := by decide +kernel
theorem dX11_cellAt_1 : decode cX11_cellAt 1 = .ok (.ldc2_w 284, 3) := by decide +kernel
theorem dX11_cellAt_4 : decode cX11_cellAt 4 = .ok (.invokevirtual 372, 3) := by decide +kernel
theorem dX11_cellAt_7 : decode cX11_cellAt 7 = .ok (.aload_n 0, 1) := by decide +kernel
theorem dX11_cellAt_8 : decode cX11_cellAt 8 = .ok (.iconst 0, 1) := by decide +kernel
theorem dX11_cellAt_9 : decode cX11_cellAt 9 = .ok (.aload_n 0, 1) := by decide +kernel
theorem dX11_cellAt_10 : decode cX11_cellAt 10 = .ok (.getfield 54, 3) := by decide +kernel
theorem dX11_cellAt_13 : decode cX11_cellAt 13 = .ok (.aload_n 0, 1) := by decide +kernel
theorem dX11_cellAt_14 : decode cX11_cellAt 14 = .ok (.getfield 133, 3) := by decide +kernel
theorem dX11_cellAt_17 : decode cX11_cellAt 17 = .ok (.iaload, 1) := by decide +kernel
theorem dX11_cellAt_18 : decode cX11_cellAt 18 = .ok (.iconst 1, 1) := by decide +kernel
theorem dX11_cellAt_19 : decode cX11_cellAt 19 = .ok (.isub, 1) := by decide +kernel
theorem dX11_cellAt_20 : decode cX11_cellAt 20 = .ok (.invokevirtual 376, 3) := by decide +kernel
theorem dX11_cellAt_23 : decode cX11_cellAt 23 = .ok (.istore_n 2, 1) := by decide +kernel
theorem dX11_cellAt_24 : decode cX11_cellAt 24 = .ok (.aload_n 0, 1) := by decide +kernel
theorem dX11_cellAt_25 : decode cX11_cellAt 25 = .ok (.iconst 0, 1) := by decide +kernel
theorem dX11_cellAt_26 : decode cX11_cellAt 26 = .ok (.aload_n 0, 1) := by decide +kernel
theorem dX11_cellAt_27 : decode cX11_cellAt 27 = .ok (.getfield 57, 3) := by decide +kernel
theorem dX11_cellAt_30 : decode cX11_cellAt 30 = .ok (.aload_n 0, 1) := by decide +kernel
theorem dX11_cellAt_31 : decode cX11_cellAt 31 = .ok (.getfield 133, 3) := by decide +kernel
theorem dX11_cellAt_34 : decode cX11_cellAt 34 = .ok (.iaload, 1) := by decide +kernel
theorem dX11_cellAt_35 : decode cX11_cellAt 35 = .ok (.iconst 1, 1) := by decide +kernel
theorem dX11_cellAt_36 : decode cX11_cellAt 36 = .ok (.isub, 1) := by decide +kernel
theorem dX11_cellAt_37 : decode cX11_cellAt 37 = .ok (.invokevirtual 338, 3) := by decide +kernel
theorem dX11_cellAt_40 : decode cX11_cellAt 40 = .ok (.aload_n 0, 1) := by decide +kernel
theorem dX11_cellAt_41 : decode cX11_cellAt 41 = .ok (.getfield 54, 3) := by decide +kernel
theorem dX11_cellAt_44 : decode cX11_cellAt 44 = .ok (.aload_n 0, 1) := by decide +kernel
theorem dX11_cellAt_45 : decode cX11_cellAt 45 = .ok (.getfield 133, 3) := by decide +kernel
theorem dX11_cellAt_48 : decode cX11_cellAt 48 = .ok (.iaload, 1) := by decide +kernel
theorem dX11_cellAt_49 : decode cX11_cellAt 49 = .ok (.imul, 1) := by decide +kernel
theorem dX11_cellAt_50 : decode cX11_cellAt 50 = .ok (.iload_n 2, 1) := by decide +kernel
theorem dX11_cellAt_51 : decode cX11_cellAt 51 = .ok (.iadd, 1) := by decide +kernel
theorem dX11_cellAt_52 : decode cX11_cellAt 52 = .ok (.istore_n 3, 1) := by decide +kernel
theorem dX11_cellAt_53 : decode cX11_cellAt 53 = .ok (.aload_n 0, 1) := by decide +kernel
theorem dX11_cellAt_54 : decode cX11_cellAt 54 = .ok (.getfield 36, 3) := by decide +kernel
theorem dX11_cellAt_57 : decode cX11_cellAt 57 = .ok (.ifCond .le 5, 3) := by decide +kernel
theorem dX11_cellAt_60 : decode cX11_cellAt 60 = .ok (.iconst 0, 1) := by decide +kernel
theorem dX11_cellAt_61 : decode cX11_cellAt 61 = .ok (.ireturn, 1) := by decide +kernel
theorem dX11_cellAt_62 : decode cX11_cellAt 62 = .ok (.iload_n 1, 1) := by decide +kernel
theorem dX11_cellAt_63 : decode cX11_cellAt 63 = .ok (.ifCond .eq 20, 3) := by decide +kernel
theorem dX11_cellAt_66 : decode cX11_cellAt 66 = .ok (.aload_n 0, 1) := by decide +kernel
theorem dX11_cellAt_67 : decode cX11_cellAt 67 = .ok (.iload_n 3, 1) := by decide +kernel
theorem dX11_cellAt_68 : decode cX11_cellAt 68 = .ok (.invokevirtual 379, 3) := by decide +kernel
theorem dX11_cellAt_71 : decode cX11_cellAt 71 = .ok (.ifCond .ne 12, 3) := by decide +kernel
theorem dX11_cellAt_74 : decode cX11_cellAt 74 = .ok (.aload_n 0, 1) := by decide +kernel
theorem dX11_cellAt_75 : decode cX11_cellAt 75 = .ok (.iconst 4, 1) := by decide +kernel
theorem dX11_cellAt_76 : decode cX11_cellAt 76 = .ok (.aload_n 0, 1) := by decide +kernel
theorem dX11_cellAt_77 : decode cX11_cellAt 77 = .ok (.getfield 23, 3) := by decide +kernel
theorem dX11_cellAt_80 : decode cX11_cellAt 80 = .ok (.invokevirtual 256, 3) := by decide +kernel
theorem dX11_cellAt_83 : decode cX11_cellAt 83 = .ok (.aload_n 0, 1) := by decide +kernel
theorem dX11_cellAt_84 : decode cX11_cellAt 84 = .ok (.getfield 36, 3) := by decide +kernel
theorem dX11_cellAt_87 : decode cX11_cellAt 87 = .ok (.ifCond .ne 7, 3) := by decide +kernel
theorem dX11_cellAt_90 : decode cX11_cellAt 90 = .ok (.aload_n 0, 1) := by decide +kernel
theorem dX11_cellAt_91 : decode cX11_cellAt 91 = .ok (.invokevirtual 277, 3) := by decide +kernel
theorem dX11_cellAt_94 : decode cX11_cellAt 94 = .ok (.iload_n 3, 1) := by decide +kernel
theorem dX11_cellAt_95 : decode cX11_cellAt 95 = .ok (.ireturn, 1) := by decide +kernel
set_option maxRecDepth 100000 in
set_option maxHeartbeats 4000000 in
theorem X11_cellAt_J83_ok {g : Gm} {w : Wd} (C : Cx g w RX11 cX11_cellAt 4 (some .int)) {lv : Nat} (hlv : 4 < lv) {N : Nat} {l0 : Nat} {l3 : Int} {m : Mem} {out : (Int × Mem)} (h : X11_cellAt_J83 N l0 l3 m = some out) : Jd g w 4 (rmL lv 0 0) (Qm g w (some (vI out.1)) out.2) 83 [some (vR l0), none, none, some (vI l3)] [] 312 m 0 0 := by
  unfold X11_cellAt_J83 at h
  refine j_aload_n C dX11_cellAt_83 rfl ?_
  refine j_getI C dX11_cellAt_84 CF11 (by decide) fl_X11_36 rfl rfl h (fun t14 h => ?_)
  refine j_if_ne C 94 dX11_cellAt_87 rfl h (fun c16 h => ?_) (fun c16 h => ?_)
  · refine j_iload_n C dX11_cellAt_94 rfl ?_
    have e := Option.some.inj h
    subst e
    exact j_ri C dX11_cellAt_95 rfl rfl rfl
  · refine j_aload_n C dX11_cellAt_90 rfl ?_
    obtain ⟨p15, ep15, h⟩ := bind_some h
    have qp15 := X11_ahead_ct ep15
    refine j_cVV C dX11_cellAt_91 vl_X11_277 CF11 rfl qp15.1 qp15.2 (by omega) rfl rfl (Nat.le_of_ble_eq_true rfl) ?_
    refine j_iload_n C dX11_cellAt_94 rfl ?_
    have e := Option.some.inj h
    subst e
    exact j_ri C dX11_cellAt_95 rfl rfl rfl
set_option maxRecDepth 100000 in
set_option maxHeartbeats 4000000 in
theorem X11_cellAt_ct {N : Nat} {l0 : Nat} {l1 : Int} {m : Mem} {out : (Int × Mem)} (h : X11_cellAt N l0 l1 m = some out) : shK l0 = 11 + 10 ∧ CT yX11_cellAt cX11_cellAt 4 (some .int) 5 0 0 [vR l0, vI l1] 312 m (some (vI out.1)) 312 out.2 := by
  unfold X11_cellAt at h
  obtain ⟨hK, h⟩ := ite_some h
  have hlv : 4 < 5 := by decide
  refine ⟨hK, CT.of (by decide +kernel) rfl (Nat.le_of_ble_eq_true rfl) (ls := [some (vR l0), some (vI l1), none, none]) rfl fun g w C _ => ?_⟩
  refine j_aload_n C dX11_cellAt_0 rfl ?_
  refine j_ldc2 (v := 24948) C dX11_cellAt_1 k_X11_284 rfl rfl ?_
  obtain ⟨p1, ep1, h⟩ := bind_some h
  have qp1 := X11_must__ct ep1
  refine j_cVV C dX11_cellAt_4 vl_X11_372 CF11 rfl qp1.1 qp1.2 (by omega) rfl rfl (Nat.le_of_ble_eq_true rfl) ?_
  refine j_aload_n C dX11_cellAt_7 rfl ?_
  refine j_iconst C dX11_cellAt_8 rfl ?_
  refine j_aload_n C dX11_cellAt_9 rfl ?_
  refine j_getR C dX11_cellAt_10 CF11 (by decide) fl_X11_54 rfl rfl h (fun t2 h => ?_)
  refine j_aload_n C dX11_cellAt_13 rfl ?_
  refine j_getI C dX11_cellAt_14 CF11 (by decide) fl_X11_133 rfl rfl h (fun t3 h => ?_)
  refine j_iald C dX11_cellAt_17 rfl h (fun t4 h => ?_)
  refine j_iconst C dX11_cellAt_18 rfl ?_
  refine j_isub C dX11_cellAt_19 ?_
  obtain ⟨p5, ep5, h⟩ := bind_some h
  have qp5 := X11_number_ct ep5
  refine j_cVI C dX11_cellAt_20 vl_X11_376 CF11 rfl qp5.1 qp5.2 (by omega) rfl rfl (Nat.le_of_ble_eq_true rfl) ?_
  refine j_istore_n (ls' := [some (vR _), some (vI _), some (vI _), none]) C dX11_cellAt_23 (by decide) rfl ?_
  refine j_aload_n C dX11_cellAt_24 rfl ?_
  refine j_iconst C dX11_cellAt_25 rfl ?_
  refine j_aload_n C dX11_cellAt_26 rfl ?_
  refine j_getR C dX11_cellAt_27 CF11 (by decide) fl_X11_57 rfl rfl h (fun t6 h => ?_)
  refine j_aload_n C dX11_cellAt_30 rfl ?_
  refine j_getI C dX11_cellAt_31 CF11 (by decide) fl_X11_133 rfl rfl h (fun t7 h => ?_)
  refine j_iald C dX11_cellAt_34 rfl h (fun t8 h => ?_)
  refine j_iconst C dX11_cellAt_35 rfl ?_
  refine j_isub C dX11_cellAt_36 ?_
  obtain ⟨p9, ep9, h⟩ := bind_some h
  have qp9 := X11_looked_ct ep9
  refine j_cVI C dX11_cellAt_37 vl_X11_338 CF11 rfl qp9.1 qp9.2 (by omega) rfl rfl (Nat.le_of_ble_eq_true rfl) ?_
  refine j_aload_n C dX11_cellAt_40 rfl ?_
  refine j_getR C dX11_cellAt_41 CF11 (by decide) fl_X11_54 rfl rfl h (fun t10 h => ?_)
  refine j_aload_n C dX11_cellAt_44 rfl ?_
  refine j_getI C dX11_cellAt_45 CF11 (by decide) fl_X11_133 rfl rfl h (fun t11 h => ?_)
  refine j_iald C dX11_cellAt_48 rfl h (fun t12 h => ?_)
  refine j_imul C dX11_cellAt_49 ?_
  refine j_iload_n C dX11_cellAt_50 rfl ?_
  refine j_iadd C dX11_cellAt_51 ?_
  refine j_istore_n (ls' := [some (vR _), some (vI _), some (vI _), some (vI _)]) C dX11_cellAt_52 (by decide) rfl ?_
  refine j_aload_n C dX11_cellAt_53 rfl ?_
  refine j_getI C dX11_cellAt_54 CF11 (by decide) fl_X11_36 rfl rfl h (fun t13 h => ?_)
  refine j_if_le C 62 dX11_cellAt_57 rfl h (fun c22 h => ?_) (fun c22 h => ?_)
  · refine j_iload_n C dX11_cellAt_62 rfl ?_
    refine j_if_eq C 83 dX11_cellAt_63 rfl h (fun c21 h => ?_) (fun c21 h => ?_)
    · refine j_mask [true, false, false, true] (ls' := [some (vR _), none, none, some (vI _)]) rfl ?_
      exact X11_cellAt_J83_ok C hlv h
    · refine j_aload_n C dX11_cellAt_66 rfl ?_
      refine j_iload_n C dX11_cellAt_67 rfl ?_
      obtain ⟨p17, ep17, h⟩ := bind_some h
      have qp17 := X11_isFreeTold_ct ep17
      refine j_cVI C dX11_cellAt_68 vl_X11_379 CF11 rfl qp17.1 qp17.2 (by omega) rfl rfl (Nat.le_of_ble_eq_true rfl) ?_
      refine j_if_ne C 83 dX11_cellAt_71 rfl h (fun c20 h => ?_) (fun c20 h => ?_)
      · refine j_mask [true, false, false, true] (ls' := [some (vR _), none, none, some (vI _)]) rfl ?_
        exact X11_cellAt_J83_ok C hlv h
      · refine j_aload_n C dX11_cellAt_74 rfl ?_
        refine j_iconst C dX11_cellAt_75 rfl ?_
        refine j_aload_n C dX11_cellAt_76 rfl ?_
        refine j_getI C dX11_cellAt_77 CF11 (by decide) fl_X11_23 rfl rfl h (fun t18 h => ?_)
        obtain ⟨p19, ep19, h⟩ := bind_some h
        have qp19 := X11_blame_ct ep19
        refine j_cVV C dX11_cellAt_80 vl_X11_256 CF11 rfl qp19.1 qp19.2 (by omega) rfl rfl (Nat.le_of_ble_eq_true rfl) ?_
        refine j_mask [true, false, false, true] (ls' := [some (vR _), none, none, some (vI _)]) rfl ?_
        exact X11_cellAt_J83_ok C hlv h
  · refine j_iconst C dX11_cellAt_60 rfl ?_
    have e := Option.some.inj h
    subst e
    exact j_ri C dX11_cellAt_61 rfl rfl rfl
theorem dX11_cistern_0 : decode cX11_cistern 0 = .ok (.aload_n 0, 1) := by decide +kernel
theorem dX11_cistern_1 : decode cX11_cistern 1 = .ok (.iload_n 1, 1) := by decide +kernel
theorem dX11_cistern_2 : decode cX11_cistern 2 = .ok (.invokevirtual 547, 3) := by decide +kernel
theorem dX11_cistern_5 : decode cX11_cistern 5 = .ok (.ifCond .ne 5, 3) := by decide +kernel
theorem dX11_cistern_8 : decode cX11_cistern 8 = .ok (.iconst (-1), 1) := by decide +kernel
theorem dX11_cistern_9 : decode cX11_cistern 9 = .ok (.ireturn, 1) := by decide +kernel
theorem dX11_cistern_10 : decode cX11_cistern 10 = .ok (.iconst 0, 1) := by decide +kernel
theorem dX11_cistern_11 : decode cX11_cistern 11 = .ok (.istore_n 3, 1) := by decide +kernel
theorem dX11_cistern_12 : decode cX11_cistern 12 = .ok (.iload_n 2, 1) := by decide +kernel
theorem dX11_cistern_13 : decode cX11_cistern 13 = .ok (.tableswitch 108 0 3 #[31, 45, 52, 64], 31) := by decide +kernel
theorem dX11_cistern_44 : decode cX11_cistern 44 = .ok (.aload_n 0, 1) := by decide +kernel
theorem dX11_cistern_45 : decode cX11_cistern 45 = .ok (.getfield 78, 3) := by decide +kernel
theorem dX11_cistern_48 : decode cX11_cistern 48 = .ok (.iconst 5, 1) := by decide +kernel
theorem dX11_cistern_49 : decode cX11_cistern 49 = .ok (.aload_n 0, 1) := by decide +kernel
theorem dX11_cistern_50 : decode cX11_cistern 50 = .ok (.getfield 51, 3) := by decide +kernel
theorem dX11_cistern_53 : decode cX11_cistern 53 = .ok (.imul, 1) := by decide +kernel
theorem dX11_cistern_54 : decode cX11_cistern 54 = .ok (.iload_n 1, 1) := by decide +kernel
theorem dX11_cistern_55 : decode cX11_cistern 55 = .ok (.iadd, 1) := by decide +kernel
theorem dX11_cistern_56 : decode cX11_cistern 56 = .ok (.iaload, 1) := by decide +kernel
theorem dX11_cistern_57 : decode cX11_cistern 57 = .ok (.ireturn, 1) := by decide +kernel
theorem dX11_cistern_58 : decode cX11_cistern 58 = .ok (.aload_n 0, 1) := by decide +kernel
theorem dX11_cistern_59 : decode cX11_cistern 59 = .ok (.getfield 173, 3) := by decide +kernel
theorem dX11_cistern_62 : decode cX11_cistern 62 = .ok (.iload_n 1, 1) := by decide +kernel
theorem dX11_cistern_63 : decode cX11_cistern 63 = .ok (.iaload, 1) := by decide +kernel
theorem dX11_cistern_64 : decode cX11_cistern 64 = .ok (.ireturn, 1) := by decide +kernel
theorem dX11_cistern_65 : decode cX11_cistern 65 = .ok (.aload_n 0, 1) := by decide +kernel
theorem dX11_cistern_66 : decode cX11_cistern 66 = .ok (.iconst 0, 1) := by decide +kernel
theorem dX11_cistern_67 : decode cX11_cistern 67 = .ok (.invokevirtual 544, 3) := by decide +kernel
theorem dX11_cistern_70 : decode cX11_cistern 70 = .ok (.aload_n 0, 1) := by decide +kernel
theorem dX11_cistern_71 : decode cX11_cistern 71 = .ok (.iconst 0, 1) := by decide +kernel
theorem dX11_cistern_72 : decode cX11_cistern 72 = .ok (.iload_n 1, 1) := by decide +kernel
theorem dX11_cistern_73 : decode cX11_cistern 73 = .ok (.invokevirtual 550, 3) := by decide +kernel
theorem dX11_cistern_76 : decode cX11_cistern 76 = .ok (.ireturn, 1) := by decide +kernel
theorem dX11_cistern_77 : decode cX11_cistern 77 = .ok (.iconst 0, 1) := by decide +kernel
theorem dX11_cistern_78 : decode cX11_cistern 78 = .ok (.istore 4, 2) := by decide +kernel
theorem dX11_cistern_80 : decode cX11_cistern 80 = .ok (.iload 4, 2) := by decide +kernel
theorem dX11_cistern_82 : decode cX11_cistern 82 = .ok (.aload_n 0, 1) := by decide +kernel
theorem dX11_cistern_83 : decode cX11_cistern 83 = .ok (.getfield 81, 3) := by decide +kernel
theorem dX11_cistern_86 : decode cX11_cistern 86 = .ok (.aload_n 0, 1) := by decide +kernel
theorem dX11_cistern_87 : decode cX11_cistern 87 = .ok (.getfield 51, 3) := by decide +kernel
theorem dX11_cistern_90 : decode cX11_cistern 90 = .ok (.iaload, 1) := by decide +kernel
theorem dX11_cistern_91 : decode cX11_cistern 91 = .ok (.if_icmp .ge 28, 3) := by decide +kernel
theorem dX11_cistern_94 : decode cX11_cistern 94 = .ok (.iload_n 3, 1) := by decide +kernel
theorem dX11_cistern_95 : decode cX11_cistern 95 = .ok (.aload_n 0, 1) := by decide +kernel
theorem dX11_cistern_96 : decode cX11_cistern 96 = .ok (.iconst 0, 1) := by decide +kernel
theorem dX11_cistern_97 : decode cX11_cistern 97 = .ok (.iload 4, 2) := by decide +kernel
theorem dX11_cistern_99 : decode cX11_cistern 99 = .ok (.invokevirtual 515, 3) := by decide +kernel
theorem dX11_cistern_102 : decode cX11_cistern 102 = .ok (.iload_n 1, 1) := by decide +kernel
theorem dX11_cistern_103 : decode cX11_cistern 103 = .ok (.if_icmp .ne 7, 3) := by decide +kernel
theorem dX11_cistern_106 : decode cX11_cistern 106 = .ok (.iconst 1, 1) := by decide +kernel
theorem dX11_cistern_107 : decode cX11_cistern 107 = .ok (.goto 4, 3) := by decide +kernel
theorem dX11_cistern_110 : decode cX11_cistern 110 = .ok (.iconst 0, 1) := by decide +kernel
theorem dX11_cistern_111 : decode cX11_cistern 111 = .ok (.iadd, 1) := by decide +kernel
theorem dX11_cistern_112 : decode cX11_cistern 112 = .ok (.istore_n 3, 1) := by decide +kernel
theorem dX11_cistern_113 : decode cX11_cistern 113 = .ok (.iinc 4 1, 3) := by decide +kernel
theorem dX11_cistern_116 : decode cX11_cistern 116 = .ok (.goto (-36), 3) := by decide +kernel
theorem dX11_cistern_119 : decode cX11_cistern 119 = .ok (.iload_n 3, 1) := by decide +kernel
theorem dX11_cistern_120 : decode cX11_cistern 120 = .ok (.ireturn, 1) := by decide +kernel
theorem dX11_cistern_121 : decode cX11_cistern 121 = .ok (.iconst (-1), 1) := by decide +kernel
theorem dX11_cistern_122 : decode cX11_cistern 122 = .ok (.ireturn, 1) := by decide +kernel
set_option maxRecDepth 100000 in
set_option maxHeartbeats 4000000 in
theorem X11_cistern_J111_ok {g : Gm} {w : Wd} (C : Cx g w RX11 cX11_cistern 5 (some .int)) {lv : Nat} (hlv : 8 < lv) {N : Nat} {r80 : Nat → Int → Int → Int → Mem → Option (Int × Mem) } {l0 : Nat} {l1 : Int} {l4 : Int} {s0 : Int} {s1 : Int} {m : Mem} {out : (Int × Mem)} (hr80 : ∀ l0 l1 l3 l4 m, r80 l0 l1 l3 l4 m = some out → Jd g w 5 (rmL lv 0 0) (Qm g w (some (vI out.1)) out.2) 80 [some (vR l0), some (vI l1), none, some (vI l3), some (vI l4)] [] 312 m 0 0) (h : X11_cistern_J111 N r80 l0 l1 l4 s0 s1 m = some out) : Jd g w 5 (rmL lv 0 0) (Qm g w (some (vI out.1)) out.2) 111 [some (vR l0), some (vI l1), none, none, some (vI l4)] [vI s1, vI s0] 312 m 0 0 := by
  unfold X11_cistern_J111 at h
  refine j_iadd C dX11_cistern_111 ?_
  refine j_istore_n (ls' := [some (vR _), some (vI _), none, some (vI _), some (vI _)]) C dX11_cistern_112 (by decide) rfl ?_
  refine j_iinc (ls' := [some (vR _), some (vI _), none, some (vI _), some (vI _)]) C dX11_cistern_113 rfl (by decide) rfl ?_
  refine j_goto C 80 dX11_cistern_116 rfl ?_
  exact hr80 _ _ _ _ _ h
set_option maxRecDepth 100000 in
set_option maxHeartbeats 4000000 in
theorem X11_cistern_L80_bok {g : Gm} {w : Wd} (C : Cx g w RX11 cX11_cistern 5 (some .int)) {lv : Nat} (hlv : 8 < lv) {N : Nat} {r80 : Nat → Int → Int → Int → Mem → Option (Int × Mem)} {l0 : Nat} {l1 : Int} {l3 : Int} {l4 : Int} {m : Mem} {out : (Int × Mem)} (hr80 : ∀ l0 l1 l3 l4 m, r80 l0 l1 l3 l4 m = some out → Jd g w 5 (rmL lv 0 0) (Qm g w (some (vI out.1)) out.2) 80 [some (vR l0), some (vI l1), none, some (vI l3), some (vI l4)] [] 312 m 0 0) (h : X11_cistern_L80_b N r80 l0 l1 l3 l4 m = some out) : Jd g w 5 (rmL lv 0 0) (Qm g w (some (vI out.1)) out.2) 80 [some (vR l0), some (vI l1), none, some (vI l3), some (vI l4)] [] 312 m 0 0 := by
  unfold X11_cistern_L80_b at h
  refine j_iload C dX11_cistern_80 rfl ?_
  refine j_aload_n C dX11_cistern_82 rfl ?_
  refine j_getR C dX11_cistern_83 CF11 (by decide) fl_X11_81 rfl rfl h (fun t12 h => ?_)
  refine j_aload_n C dX11_cistern_86 rfl ?_
  refine j_getI C dX11_cistern_87 CF11 (by decide) fl_X11_51 rfl rfl h (fun t13 h => ?_)
  refine j_iald C dX11_cistern_90 rfl h (fun t14 h => ?_)
  refine j_icmp_ge C 119 dX11_cistern_91 rfl h (fun c17 h => ?_) (fun c17 h => ?_)
  · refine j_iload_n C dX11_cistern_119 rfl ?_
    have e := Option.some.inj h
    subst e
    exact j_ri C dX11_cistern_120 rfl rfl rfl
  · refine j_iload_n C dX11_cistern_94 rfl ?_
    refine j_aload_n C dX11_cistern_95 rfl ?_
    refine j_iconst C dX11_cistern_96 rfl ?_
    refine j_iload C dX11_cistern_97 rfl ?_
    obtain ⟨p15, ep15, h⟩ := bind_some h
    have qp15 := X11_cisternOf_ct ep15
    refine j_cVI C dX11_cistern_99 vl_X11_515 CF11 rfl qp15.1 qp15.2 (by omega) rfl rfl (Nat.le_of_ble_eq_true rfl) ?_
    refine j_iload_n C dX11_cistern_102 rfl ?_
    refine j_icmp_ne C 110 dX11_cistern_103 rfl h (fun c16 h => ?_) (fun c16 h => ?_)
    · refine j_iconst C dX11_cistern_110 rfl ?_
      refine j_mask [true, true, false, false, true] (ls' := [some (vR _), some (vI _), none, none, some (vI _)]) rfl ?_
      exact X11_cistern_J111_ok C hlv hr80 h
    · refine j_iconst C dX11_cistern_106 rfl ?_
      refine j_goto C 111 dX11_cistern_107 rfl ?_
      refine j_mask [true, true, false, false, true] (ls' := [some (vR _), some (vI _), none, none, some (vI _)]) rfl ?_
      exact X11_cistern_J111_ok C hlv hr80 h
set_option maxRecDepth 100000 in
set_option maxHeartbeats 4000000 in
theorem X11_cistern_L80_ok {g : Gm} {w : Wd} (C : Cx g w RX11 cX11_cistern 5 (some .int)) {lv : Nat} (hlv : 8 < lv) {N : Nat} {out : (Int × Mem)} (f : Nat) : ∀ {l0 : Nat} {l1 : Int} {l3 : Int} {l4 : Int} {m : Mem}, X11_cistern_L80 N f l0 l1 l3 l4 m = some out → Jd g w 5 (rmL lv 0 0) (Qm g w (some (vI out.1)) out.2) 80 [some (vR l0), some (vI l1), none, some (vI l3), some (vI l4)] [] 312 m 0 0 := by
  induction f with
  | zero => intro l0 l1 l3 l4 m h; exact none_ne (α := (Int × Mem)) h
  | succ f ih => intro l0 l1 l3 l4 m h; exact X11_cistern_L80_bok C hlv (fun l0 l1 l3 l4 m h => ih h) h
set_option maxRecDepth 100000 in
set_option maxHeartbeats 4000000 in
theorem X11_cistern_ct {N : Nat} {l0 : Nat} {l1 : Int} {l2 : Int} {m : Mem} {out : (Int × Mem)} (h : X11_cistern N l0 l1 l2 m = some out) : shK l0 = 11 + 10 ∧ CT yX11_cistern cX11_cistern 5 (some .int) 9 0 0 [vR l0, vI l1, vI l2] 312 m (some (vI out.1)) 312 out.2 := by
  unfold X11_cistern at h
  obtain ⟨hK, h⟩ := ite_some h
  have hlv : 8 < 9 := by decide
  refine ⟨hK, CT.of (by decide +kernel) rfl (Nat.le_of_ble_eq_true rfl) (ls := [some (vR l0), some (vI l1), some (vI l2), none, none]) rfl fun g w C _ => ?_⟩
  refine j_aload_n C dX11_cistern_0 rfl ?_
  refine j_iload_n C dX11_cistern_1 rfl ?_
  obtain ⟨p1, ep1, h⟩ := bind_some h
  have qp1 := X11_isCistern_ct ep1
  refine j_cVI C dX11_cistern_2 vl_X11_547 CF11 rfl qp1.1 qp1.2 (by omega) rfl rfl (Nat.le_of_ble_eq_true rfl) ?_
  refine j_if_ne C 10 dX11_cistern_5 rfl h (fun c19 h => ?_) (fun c19 h => ?_)
  · refine j_iconst C dX11_cistern_10 rfl ?_
    refine j_istore_n (ls' := [some (vR _), some (vI _), some (vI _), some (vI _), none]) C dX11_cistern_11 (by decide) rfl ?_
    refine j_iload_n C dX11_cistern_12 rfl ?_
    rcases ite_cases h with ⟨c5, h⟩ | ⟨c5, h⟩
    · refine j_tsIn C 44 (0) dX11_cistern_13 c5 rfl rfl rfl ?_
      refine j_aload_n C dX11_cistern_44 rfl ?_
      refine j_getR C dX11_cistern_45 CF11 (by decide) fl_X11_78 rfl rfl h (fun t2 h => ?_)
      refine j_iconst C dX11_cistern_48 rfl ?_
      refine j_aload_n C dX11_cistern_49 rfl ?_
      refine j_getI C dX11_cistern_50 CF11 (by decide) fl_X11_51 rfl rfl h (fun t3 h => ?_)
      refine j_imul C dX11_cistern_53 ?_
      refine j_iload_n C dX11_cistern_54 rfl ?_
      refine j_iadd C dX11_cistern_55 ?_
      refine j_iald C dX11_cistern_56 rfl h (fun t4 h => ?_)
      have e := Option.some.inj h
      subst e
      exact j_ri C dX11_cistern_57 rfl rfl rfl
    rcases ite_cases h with ⟨c8, h⟩ | ⟨c8, h⟩
    · refine j_tsIn C 58 (1) dX11_cistern_13 c8 rfl rfl rfl ?_
      refine j_aload_n C dX11_cistern_58 rfl ?_
      refine j_getR C dX11_cistern_59 CF11 (by decide) fl_X11_173 rfl rfl h (fun t6 h => ?_)
      refine j_iload_n C dX11_cistern_62 rfl ?_
      refine j_iald C dX11_cistern_63 rfl h (fun t7 h => ?_)
      have e := Option.some.inj h
      subst e
      exact j_ri C dX11_cistern_64 rfl rfl rfl
    rcases ite_cases h with ⟨c11, h⟩ | ⟨c11, h⟩
    · refine j_tsIn C 65 (2) dX11_cistern_13 c11 rfl rfl rfl ?_
      refine j_aload_n C dX11_cistern_65 rfl ?_
      refine j_iconst C dX11_cistern_66 rfl ?_
      obtain ⟨p9, ep9, h⟩ := bind_some h
      have qp9 := X11_nightAsTold_ct ep9
      refine j_cVV C dX11_cistern_67 vl_X11_544 CF11 rfl qp9.1 qp9.2 (by omega) rfl rfl (Nat.le_of_ble_eq_true rfl) ?_
      refine j_aload_n C dX11_cistern_70 rfl ?_
      refine j_iconst C dX11_cistern_71 rfl ?_
      refine j_iload_n C dX11_cistern_72 rfl ?_
      obtain ⟨p10, ep10, h⟩ := bind_some h
      have qp10 := X11_comes_ct ep10
      refine j_cVI C dX11_cistern_73 vl_X11_550 CF11 rfl qp10.1 qp10.2 (by omega) rfl rfl (Nat.le_of_ble_eq_true rfl) ?_
      have e := Option.some.inj h
      subst e
      exact j_ri C dX11_cistern_76 rfl rfl rfl
    rcases ite_cases h with ⟨c18, h⟩ | ⟨c18, h⟩
    · refine j_tsIn C 77 (3) dX11_cistern_13 c18 rfl rfl rfl ?_
      refine j_iconst C dX11_cistern_77 rfl ?_
      refine j_istore (ls' := [some (vR _), some (vI _), some (vI _), some (vI _), some (vI _)]) C dX11_cistern_78 (by decide) rfl ?_
      refine j_mask [true, true, false, true, true] (ls' := [some (vR _), some (vI _), none, some (vI _), some (vI _)]) rfl ?_
      exact X11_cistern_L80_ok C hlv N h
    refine j_tsOut C 121 dX11_cistern_13 (by omega) rfl ?_
    refine j_iconst C dX11_cistern_121 rfl ?_
    have e := Option.some.inj h
    subst e
    exact j_ri C dX11_cistern_122 rfl rfl rfl
  · refine j_iconst C dX11_cistern_8 rfl ?_
    have e := Option.some.inj h
    subst e
    exact j_ri C dX11_cistern_9 rfl rfl rfl
theorem dX11_counts_0 : decode cX11_counts 0 = .ok (.aload_n 0, 1) := by decide +kernel
theorem dX11_counts_1 : decode cX11_counts 1 = .ok (.getfield 36, 3) := by decide +kernel
theorem dX11_counts_4 : decode cX11_counts 4 = .ok (.ifCond .ne 17, 3) := by decide +kernel
theorem dX11_counts_7 : decode cX11_counts 7 = .ok (.iload_n 1, 1) := by decide +kernel
theorem dX11_counts_8 : decode cX11_counts 8 = .ok (.ifCond .eq 13, 3) := by decide +kernel
theorem dX11_counts_11 : decode cX11_counts 11 = .ok (.aload_n 0, 1) := by decide +kernel
theorem dX11_counts_12 : decode cX11_counts 12 = .ok (.bipush 6, 2) := by decide +kernel
theorem dX11_counts_14 : decode cX11_counts 14 = .ok (.aload_n 0, 1) := by decide +kernel
theorem dX11_counts_15 : decode cX11_counts 15 = .ok (.getfield 23, 3) := by decide +kernel
theorem dX11_counts_18 : decode cX11_counts 18 = .ok (.invokevirtual 256, 3) := by decide +kernel
theorem dX11_counts_21 : decode cX11_counts 21 = .ok (.aload_n 0, 1) := by decide +kernel
theorem dX11_counts_22 : decode cX11_counts 22 = .ok (.getfield 36, 3) := by decide +kernel
theorem dX11_counts_25 : decode cX11_counts 25 = .ok (.ifCond .ne 7, 3) := by decide +kernel
theorem dX11_counts_28 : decode cX11_counts 28 = .ok (.aload_n 0, 1) := by decide +kernel
theorem dX11_counts_29 : decode cX11_counts 29 = .ok (.invokevirtual 277, 3) := by decide +kernel
theorem dX11_counts_32 : decode cX11_counts 32 = .ok (.aload_n 0, 1) := by decide +kernel
theorem dX11_counts_33 : decode cX11_counts 33 = .ok (.getfield 36, 3) := by decide +kernel
theorem dX11_counts_36 : decode cX11_counts 36 = .ok (.ifCond .ne 7, 3) := by decide +kernel
theorem dX11_counts_39 : decode cX11_counts 39 = .ok (.iconst 1, 1) := by decide +kernel
theorem dX11_counts_40 : decode cX11_counts 40 = .ok (.goto 4, 3) := by decide +kernel
theorem dX11_counts_43 : decode cX11_counts 43 = .ok (.iconst 0, 1) := by decide +kernel
theorem dX11_counts_44 : decode cX11_counts 44 = .ok (.ireturn, 1) := by decide +kernel
set_option maxRecDepth 100000 in
set_option maxHeartbeats 4000000 in
theorem X11_counts_J32_ok {g : Gm} {w : Wd} (C : Cx g w RX11 cX11_counts 2 (some .boolean)) {lv : Nat} (hlv : 2 < lv) {N : Nat} {l0 : Nat} {m : Mem} {out : (Int × Mem)} (h : X11_counts_J32 N l0 m = some out) : Jd g w 2 (rmL lv 0 0) (Qm g w (some (vI out.1)) out.2) 32 [some (vR l0), none] [] 312 m 0 0 := by
  unfold X11_counts_J32 at h
  refine j_aload_n C dX11_counts_32 rfl ?_
  refine j_getI C dX11_counts_33 CF11 (by decide) fl_X11_36 rfl rfl h (fun t3 h => ?_)
  refine j_if_ne C 43 dX11_counts_36 rfl h (fun c6 h => ?_) (fun c6 h => ?_)
  · refine j_iconst C dX11_counts_43 rfl ?_
    obtain ⟨r4, er4, h⟩ := bind_some h
    have e := Option.some.inj h
    subst e
    exact j_rz C dX11_counts_44 rfl (retZ_some er4) rfl
  · refine j_iconst C dX11_counts_39 rfl ?_
    refine j_goto C 44 dX11_counts_40 rfl ?_
    obtain ⟨r5, er5, h⟩ := bind_some h
    have e := Option.some.inj h
    subst e
    exact j_rz C dX11_counts_44 rfl (retZ_some er5) rfl
set_option maxRecDepth 100000 in
set_option maxHeartbeats 4000000 in
theorem X11_counts_J21_ok {g : Gm} {w : Wd} (C : Cx g w RX11 cX11_counts 2 (some .boolean)) {lv : Nat} (hlv : 2 < lv) {N : Nat} {l0 : Nat} {m : Mem} {out : (Int × Mem)} (h : X11_counts_J21 N l0 m = some out) : Jd g w 2 (rmL lv 0 0) (Qm g w (some (vI out.1)) out.2) 21 [some (vR l0), none] [] 312 m 0 0 := by
  unfold X11_counts_J21 at h
  refine j_aload_n C dX11_counts_21 rfl ?_
  refine j_getI C dX11_counts_22 CF11 (by decide) fl_X11_36 rfl rfl h (fun t2 h => ?_)
  refine j_if_ne C 32 dX11_counts_25 rfl h (fun c8 h => ?_) (fun c8 h => ?_)
  · exact X11_counts_J32_ok C hlv h
  · refine j_aload_n C dX11_counts_28 rfl ?_
    obtain ⟨p7, ep7, h⟩ := bind_some h
    have qp7 := X11_ahead_ct ep7
    refine j_cVV C dX11_counts_29 vl_X11_277 CF11 rfl qp7.1 qp7.2 (by omega) rfl rfl (Nat.le_of_ble_eq_true rfl) ?_
    exact X11_counts_J32_ok C hlv h
set_option maxRecDepth 100000 in
set_option maxHeartbeats 4000000 in
theorem X11_counts_ct {N : Nat} {l0 : Nat} {l1 : Int} {m : Mem} {out : (Int × Mem)} (h : X11_counts N l0 l1 m = some out) : shK l0 = 11 + 10 ∧ CT yX11_counts cX11_counts 2 (some .boolean) 3 0 0 [vR l0, vI l1] 312 m (some (vI out.1)) 312 out.2 := by
  unfold X11_counts at h
  obtain ⟨hK, h⟩ := ite_some h
  have hlv : 2 < 3 := by decide
  refine ⟨hK, CT.of (by decide +kernel) rfl (Nat.le_of_ble_eq_true rfl) (ls := [some (vR l0), some (vI l1)]) rfl fun g w C _ => ?_⟩
  refine j_aload_n C dX11_counts_0 rfl ?_
  refine j_getI C dX11_counts_1 CF11 (by decide) fl_X11_36 rfl rfl h (fun t1 h => ?_)
  refine j_if_ne C 21 dX11_counts_4 rfl h (fun c12 h => ?_) (fun c12 h => ?_)
  · refine j_mask [true, false] (ls' := [some (vR _), none]) rfl ?_
    exact X11_counts_J21_ok C hlv h
  · refine j_iload_n C dX11_counts_7 rfl ?_
    refine j_if_eq C 21 dX11_counts_8 rfl h (fun c11 h => ?_) (fun c11 h => ?_)
    · refine j_mask [true, false] (ls' := [some (vR _), none]) rfl ?_
      exact X11_counts_J21_ok C hlv h
    · refine j_aload_n C dX11_counts_11 rfl ?_
      refine j_bipush C dX11_counts_12 rfl ?_
      refine j_aload_n C dX11_counts_14 rfl ?_
      refine j_getI C dX11_counts_15 CF11 (by decide) fl_X11_23 rfl rfl h (fun t9 h => ?_)
      obtain ⟨p10, ep10, h⟩ := bind_some h
      have qp10 := X11_blame_ct ep10
      refine j_cVV C dX11_counts_18 vl_X11_256 CF11 rfl qp10.1 qp10.2 (by omega) rfl rfl (Nat.le_of_ble_eq_true rfl) ?_
      refine j_mask [true, false] (ls' := [some (vR _), none]) rfl ?_
      exact X11_counts_J21_ok C hlv h
theorem dX11_isNamed_0 : decode cX11_isNamed 0 = .ok (.iconst 0, 1) := by decide +kernel
theorem dX11_isNamed_1 : decode cX11_isNamed 1 = .ok (.istore_n 3, 1) := by decide +kernel
theorem dX11_isNamed_2 : decode cX11_isNamed 2 = .ok (.iload_n 3, 1) := by decide +kernel
theorem dX11_isNamed_3 : decode cX11_isNamed 3 = .ok (.aload_n 0, 1) := by decide +kernel
theorem dX11_isNamed_4 : decode cX11_isNamed 4 = .ok (.getfield 75, 3) := by decide +kernel
theorem dX11_isNamed_7 : decode cX11_isNamed 7 = .ok (.aload_n 0, 1) := by decide +kernel
theorem dX11_isNamed_8 : decode cX11_isNamed 8 = .ok (.getfield 133, 3) := by decide +kernel
theorem dX11_isNamed_11 : decode cX11_isNamed 11 = .ok (.iaload, 1) := by decide +kernel
theorem dX11_isNamed_12 : decode cX11_isNamed 12 = .ok (.if_icmp .ge 29, 3) := by decide +kernel
theorem dX11_isNamed_15 : decode cX11_isNamed 15 = .ok (.aload_n 0, 1) := by decide +kernel
theorem dX11_isNamed_16 : decode cX11_isNamed 16 = .ok (.getfield 123, 3) := by decide +kernel
theorem dX11_isNamed_19 : decode cX11_isNamed 19 = .ok (.iconst 5, 1) := by decide +kernel
theorem dX11_isNamed_20 : decode cX11_isNamed 20 = .ok (.aload_n 0, 1) := by decide +kernel
theorem dX11_isNamed_21 : decode cX11_isNamed 21 = .ok (.getfield 133, 3) := by decide +kernel
theorem dX11_isNamed_24 : decode cX11_isNamed 24 = .ok (.imul, 1) := by decide +kernel
theorem dX11_isNamed_25 : decode cX11_isNamed 25 = .ok (.iload_n 3, 1) := by decide +kernel
theorem dX11_isNamed_26 : decode cX11_isNamed 26 = .ok (.iadd, 1) := by decide +kernel
theorem dX11_isNamed_27 : decode cX11_isNamed 27 = .ok (.laload, 1) := by decide +kernel
theorem dX11_isNamed_28 : decode cX11_isNamed 28 = .ok (.lload_n 1, 1) := by decide +kernel
theorem dX11_isNamed_29 : decode cX11_isNamed 29 = .ok (.lcmp, 1) := by decide +kernel
theorem dX11_isNamed_30 : decode cX11_isNamed 30 = .ok (.ifCond .ne 5, 3) := by decide +kernel
theorem dX11_isNamed_33 : decode cX11_isNamed 33 = .ok (.iconst 1, 1) := by decide +kernel
theorem dX11_isNamed_34 : decode cX11_isNamed 34 = .ok (.ireturn, 1) := by decide +kernel
theorem dX11_isNamed_35 : decode cX11_isNamed 35 = .ok (.iinc 3 1, 3) := by decide +kernel
theorem dX11_isNamed_38 : decode cX11_isNamed 38 = .ok (.goto (-36), 3) := by decide +kernel
theorem dX11_isNamed_41 : decode cX11_isNamed 41 = .ok (.iconst 0, 1) := by decide +kernel
theorem dX11_isNamed_42 : decode cX11_isNamed 42 = .ok (.istore_n 3, 1) := by decide +kernel
theorem dX11_isNamed_43 : decode cX11_isNamed 43 = .ok (.iload_n 3, 1) := by decide +kernel
theorem dX11_isNamed_44 : decode cX11_isNamed 44 = .ok (.aload_n 0, 1) := by decide +kernel
theorem dX11_isNamed_45 : decode cX11_isNamed 45 = .ok (.getfield 81, 3) := by decide +kernel
theorem dX11_isNamed_48 : decode cX11_isNamed 48 = .ok (.aload_n 0, 1) := by decide +kernel
theorem dX11_isNamed_49 : decode cX11_isNamed 49 = .ok (.getfield 133, 3) := by decide +kernel
theorem dX11_isNamed_52 : decode cX11_isNamed 52 = .ok (.iaload, 1) := by decide +kernel
theorem dX11_isNamed_53 : decode cX11_isNamed 53 = .ok (.if_icmp .ge 47, 3) := by decide +kernel
theorem dX11_isNamed_56 : decode cX11_isNamed 56 = .ok (.aload_n 0, 1) := by decide +kernel
theorem dX11_isNamed_57 : decode cX11_isNamed 57 = .ok (.getfield 84, 3) := by decide +kernel
theorem dX11_isNamed_60 : decode cX11_isNamed 60 = .ok (.bipush 10, 2) := by decide +kernel
theorem dX11_isNamed_62 : decode cX11_isNamed 62 = .ok (.aload_n 0, 1) := by decide +kernel
theorem dX11_isNamed_63 : decode cX11_isNamed 63 = .ok (.getfield 133, 3) := by decide +kernel
theorem dX11_isNamed_66 : decode cX11_isNamed 66 = .ok (.imul, 1) := by decide +kernel
theorem dX11_isNamed_67 : decode cX11_isNamed 67 = .ok (.iload_n 3, 1) := by decide +kernel
theorem dX11_isNamed_68 : decode cX11_isNamed 68 = .ok (.iadd, 1) := by decide +kernel
theorem dX11_isNamed_69 : decode cX11_isNamed 69 = .ok (.iaload, 1) := by decide +kernel
theorem dX11_isNamed_70 : decode cX11_isNamed 70 = .ok (.ifCond .ne 24, 3) := by decide +kernel
theorem dX11_isNamed_73 : decode cX11_isNamed 73 = .ok (.aload_n 0, 1) := by decide +kernel
theorem dX11_isNamed_74 : decode cX11_isNamed 74 = .ok (.getfield 127, 3) := by decide +kernel
theorem dX11_isNamed_77 : decode cX11_isNamed 77 = .ok (.bipush 10, 2) := by decide +kernel
theorem dX11_isNamed_79 : decode cX11_isNamed 79 = .ok (.aload_n 0, 1) := by decide +kernel
theorem dX11_isNamed_80 : decode cX11_isNamed 80 = .ok (.getfield 133, 3) := by decide +kernel
theorem dX11_isNamed_83 : decode cX11_isNamed 83 = .ok (.imul, 1) := by decide +kernel
theorem dX11_isNamed_84 : decode cX11_isNamed 84 = .ok (.iload_n 3, 1) := by decide +kernel
theorem dX11_isNamed_85 : decode cX11_isNamed 85 = .ok (.iadd, 1) := by decide +kernel
theorem dX11_isNamed_86 : decode cX11_isNamed 86 = .ok (.laload, 1) := by decide +kernel
theorem dX11_isNamed_87 : decode cX11_isNamed 87 = .ok (.lload_n 1, 1) := by decide +kernel
theorem dX11_isNamed_88 : decode cX11_isNamed 88 = .ok (.lcmp, 1) := by decide +kernel
theorem dX11_isNamed_89 : decode cX11_isNamed 89 = .ok (.ifCond .ne 5, 3) := by decide +kernel
theorem dX11_isNamed_92 : decode cX11_isNamed 92 = .ok (.iconst 1, 1) := by decide +kernel
theorem dX11_isNamed_93 : decode cX11_isNamed 93 = .ok (.ireturn, 1) := by decide +kernel
theorem dX11_isNamed_94 : decode cX11_isNamed 94 = .ok (.iinc 3 1, 3) := by decide +kernel
theorem dX11_isNamed_97 : decode cX11_isNamed 97 = .ok (.goto (-54), 3) := by decide +kernel
theorem dX11_isNamed_100 : decode cX11_isNamed 100 = .ok (.iconst 0, 1) := by decide +kernel
theorem dX11_isNamed_101 : decode cX11_isNamed 101 = .ok (.ireturn, 1) := by decide +kernel
set_option maxRecDepth 100000 in
set_option maxHeartbeats 4000000 in
theorem X11_isNamed_L2_bok {g : Gm} {w : Wd} (C : Cx g w RX11 cX11_isNamed 4 (some .boolean)) {lv : Nat} (hlv : 0 < lv) {N : Nat} {k41 : Nat → Int → Option Int} {r2 : Nat → Int → Int → Option Int} {l0 : Nat} {l1 : Int} {l3 : Int} {m : Mem} {out : Int} (hk41 : ∀ l0 l1, k41 l0 l1 = some out → Jd g w 4 (rmL lv 0 0) (Qm g w (some (vI out)) m) 41 [some (vR l0), some (vL l1), none, none] [] 312 m 0 0) (hr2 : ∀ l0 l1 l3, r2 l0 l1 l3 = some out → Jd g w 4 (rmL lv 0 0) (Qm g w (some (vI out)) m) 2 [some (vR l0), some (vL l1), none, some (vI l3)] [] 312 m 0 0) (h : X11_isNamed_L2_b N k41 m r2 l0 l1 l3 = some out) : Jd g w 4 (rmL lv 0 0) (Qm g w (some (vI out)) m) 2 [some (vR l0), some (vL l1), none, some (vI l3)] [] 312 m 0 0 := by
  unfold X11_isNamed_L2_b at h
  refine j_iload_n C dX11_isNamed_2 rfl ?_
  refine j_aload_n C dX11_isNamed_3 rfl ?_
  refine j_getR C dX11_isNamed_4 CF11 (by decide) fl_X11_75 rfl rfl h (fun t1 h => ?_)
  refine j_aload_n C dX11_isNamed_7 rfl ?_
  refine j_getI C dX11_isNamed_8 CF11 (by decide) fl_X11_133 rfl rfl h (fun t2 h => ?_)
  refine j_iald C dX11_isNamed_11 rfl h (fun t3 h => ?_)
  refine j_icmp_ge C 41 dX11_isNamed_12 rfl h (fun c8 h => ?_) (fun c8 h => ?_)
  · refine j_mask [true, true, false, false] (ls' := [some (vR _), some (vL _), none, none]) rfl ?_
    exact hk41 _ _ h
  · refine j_aload_n C dX11_isNamed_15 rfl ?_
    refine j_getR C dX11_isNamed_16 CF11 (by decide) fl_X11_123 rfl rfl h (fun t4 h => ?_)
    refine j_iconst C dX11_isNamed_19 rfl ?_
    refine j_aload_n C dX11_isNamed_20 rfl ?_
    refine j_getI C dX11_isNamed_21 CF11 (by decide) fl_X11_133 rfl rfl h (fun t5 h => ?_)
    refine j_imul C dX11_isNamed_24 ?_
    refine j_iload_n C dX11_isNamed_25 rfl ?_
    refine j_iadd C dX11_isNamed_26 ?_
    refine j_lald C dX11_isNamed_27 rfl h (fun t6 h => ?_)
    refine j_lload_n C dX11_isNamed_28 rfl ?_
    refine j_lcmp C dX11_isNamed_29 ?_
    refine j_if_ne C 35 dX11_isNamed_30 rfl h (fun c7 h => ?_) (fun c7 h => ?_)
    · refine j_iinc (ls' := [some (vR _), some (vL _), none, some (vI _)]) C dX11_isNamed_35 rfl (by decide) rfl ?_
      refine j_goto C 2 dX11_isNamed_38 rfl ?_
      exact hr2 _ _ _ h
    · refine j_iconst C dX11_isNamed_33 rfl ?_
      exact j_rz C dX11_isNamed_34 rfl (retZ_some h) rfl
set_option maxRecDepth 100000 in
set_option maxHeartbeats 4000000 in
theorem X11_isNamed_L2_ok {g : Gm} {w : Wd} (C : Cx g w RX11 cX11_isNamed 4 (some .boolean)) {lv : Nat} (hlv : 0 < lv) {N : Nat} {k41 : Nat → Int → Option Int} {m : Mem} {out : Int} (hk41 : ∀ l0 l1, k41 l0 l1 = some out → Jd g w 4 (rmL lv 0 0) (Qm g w (some (vI out)) m) 41 [some (vR l0), some (vL l1), none, none] [] 312 m 0 0) (f : Nat) : ∀ {l0 : Nat} {l1 : Int} {l3 : Int}, X11_isNamed_L2 N k41 m f l0 l1 l3 = some out → Jd g w 4 (rmL lv 0 0) (Qm g w (some (vI out)) m) 2 [some (vR l0), some (vL l1), none, some (vI l3)] [] 312 m 0 0 := by
  induction f with
  | zero => intro l0 l1 l3 h; exact none_ne (α := Int) h
  | succ f ih => intro l0 l1 l3 h; exact X11_isNamed_L2_bok C hlv hk41 (fun l0 l1 l3 h => ih h) h
set_option maxRecDepth 100000 in
set_option maxHeartbeats 4000000 in
theorem X11_isNamed_J94_ok {g : Gm} {w : Wd} (C : Cx g w RX11 cX11_isNamed 4 (some .boolean)) {lv : Nat} (hlv : 0 < lv) {N : Nat} {r43 : Nat → Int → Int → Option Int } {l0 : Nat} {l1 : Int} {l3 : Int} {m : Mem} {out : Int} (hr43 : ∀ l0 l1 l3, r43 l0 l1 l3 = some out → Jd g w 4 (rmL lv 0 0) (Qm g w (some (vI out)) m) 43 [some (vR l0), some (vL l1), none, some (vI l3)] [] 312 m 0 0) (h : X11_isNamed_J94 N r43 l0 l1 l3 m = some out) : Jd g w 4 (rmL lv 0 0) (Qm g w (some (vI out)) m) 94 [some (vR l0), some (vL l1), none, some (vI l3)] [] 312 m 0 0 := by
  unfold X11_isNamed_J94 at h
  refine j_iinc (ls' := [some (vR _), some (vL _), none, some (vI _)]) C dX11_isNamed_94 rfl (by decide) rfl ?_
  refine j_goto C 43 dX11_isNamed_97 rfl ?_
  exact hr43 _ _ _ h
set_option maxRecDepth 100000 in
set_option maxHeartbeats 4000000 in
theorem X11_isNamed_L43_bok {g : Gm} {w : Wd} (C : Cx g w RX11 cX11_isNamed 4 (some .boolean)) {lv : Nat} (hlv : 0 < lv) {N : Nat} {r43 : Nat → Int → Int → Option Int} {l0 : Nat} {l1 : Int} {l3 : Int} {m : Mem} {out : Int} (hr43 : ∀ l0 l1 l3, r43 l0 l1 l3 = some out → Jd g w 4 (rmL lv 0 0) (Qm g w (some (vI out)) m) 43 [some (vR l0), some (vL l1), none, some (vI l3)] [] 312 m 0 0) (h : X11_isNamed_L43_b N m r43 l0 l1 l3 = some out) : Jd g w 4 (rmL lv 0 0) (Qm g w (some (vI out)) m) 43 [some (vR l0), some (vL l1), none, some (vI l3)] [] 312 m 0 0 := by
  unfold X11_isNamed_L43_b at h
  refine j_iload_n C dX11_isNamed_43 rfl ?_
  refine j_aload_n C dX11_isNamed_44 rfl ?_
  refine j_getR C dX11_isNamed_45 CF11 (by decide) fl_X11_81 rfl rfl h (fun t11 h => ?_)
  refine j_aload_n C dX11_isNamed_48 rfl ?_
  refine j_getI C dX11_isNamed_49 CF11 (by decide) fl_X11_133 rfl rfl h (fun t12 h => ?_)
  refine j_iald C dX11_isNamed_52 rfl h (fun t13 h => ?_)
  refine j_icmp_ge C 100 dX11_isNamed_53 rfl h (fun c22 h => ?_) (fun c22 h => ?_)
  · refine j_iconst C dX11_isNamed_100 rfl ?_
    exact j_rz C dX11_isNamed_101 rfl (retZ_some h) rfl
  · refine j_aload_n C dX11_isNamed_56 rfl ?_
    refine j_getR C dX11_isNamed_57 CF11 (by decide) fl_X11_84 rfl rfl h (fun t14 h => ?_)
    refine j_bipush C dX11_isNamed_60 rfl ?_
    refine j_aload_n C dX11_isNamed_62 rfl ?_
    refine j_getI C dX11_isNamed_63 CF11 (by decide) fl_X11_133 rfl rfl h (fun t15 h => ?_)
    refine j_imul C dX11_isNamed_66 ?_
    refine j_iload_n C dX11_isNamed_67 rfl ?_
    refine j_iadd C dX11_isNamed_68 ?_
    refine j_iald C dX11_isNamed_69 rfl h (fun t16 h => ?_)
    refine j_if_ne C 94 dX11_isNamed_70 rfl h (fun c21 h => ?_) (fun c21 h => ?_)
    · exact X11_isNamed_J94_ok C hlv hr43 h
    · refine j_aload_n C dX11_isNamed_73 rfl ?_
      refine j_getR C dX11_isNamed_74 CF11 (by decide) fl_X11_127 rfl rfl h (fun t17 h => ?_)
      refine j_bipush C dX11_isNamed_77 rfl ?_
      refine j_aload_n C dX11_isNamed_79 rfl ?_
      refine j_getI C dX11_isNamed_80 CF11 (by decide) fl_X11_133 rfl rfl h (fun t18 h => ?_)
      refine j_imul C dX11_isNamed_83 ?_
      refine j_iload_n C dX11_isNamed_84 rfl ?_
      refine j_iadd C dX11_isNamed_85 ?_
      refine j_lald C dX11_isNamed_86 rfl h (fun t19 h => ?_)
      refine j_lload_n C dX11_isNamed_87 rfl ?_
      refine j_lcmp C dX11_isNamed_88 ?_
      refine j_if_ne C 94 dX11_isNamed_89 rfl h (fun c20 h => ?_) (fun c20 h => ?_)
      · exact X11_isNamed_J94_ok C hlv hr43 h
      · refine j_iconst C dX11_isNamed_92 rfl ?_
        exact j_rz C dX11_isNamed_93 rfl (retZ_some h) rfl
set_option maxRecDepth 100000 in
set_option maxHeartbeats 4000000 in
theorem X11_isNamed_L43_ok {g : Gm} {w : Wd} (C : Cx g w RX11 cX11_isNamed 4 (some .boolean)) {lv : Nat} (hlv : 0 < lv) {N : Nat} {m : Mem} {out : Int} (f : Nat) : ∀ {l0 : Nat} {l1 : Int} {l3 : Int}, X11_isNamed_L43 N m f l0 l1 l3 = some out → Jd g w 4 (rmL lv 0 0) (Qm g w (some (vI out)) m) 43 [some (vR l0), some (vL l1), none, some (vI l3)] [] 312 m 0 0 := by
  induction f with
  | zero => intro l0 l1 l3 h; exact none_ne (α := Int) h
  | succ f ih => intro l0 l1 l3 h; exact X11_isNamed_L43_bok C hlv (fun l0 l1 l3 h => ih h) h
set_option maxRecDepth 100000 in
set_option maxHeartbeats 4000000 in
theorem X11_isNamed_ct {N : Nat} {l0 : Nat} {l1 : Int} {m : Mem} {out : Int} (h : X11_isNamed N l0 l1 m = some out) : shK l0 = 11 + 10 ∧ CT yX11_isNamed cX11_isNamed 4 (some .boolean) 1 0 0 [vR l0, vL l1] 312 m (some (vI out)) 312 m := by
  unfold X11_isNamed at h
  obtain ⟨hK, h⟩ := ite_some h
  have hlv : 0 < 1 := by decide
  refine ⟨hK, CT.of (by decide +kernel) rfl (Nat.le_of_ble_eq_true rfl) (ls := [some (vR l0), some (vL l1), none, none]) rfl fun g w C _ => ?_⟩
  refine j_iconst C dX11_isNamed_0 rfl ?_
  refine j_istore_n (ls' := [some (vR _), some (vL _), none, some (vI _)]) C dX11_isNamed_1 (by decide) rfl ?_
  refine X11_isNamed_L2_ok C hlv (fun z9 z10 h => ?_) N h
  refine j_iconst C dX11_isNamed_41 rfl ?_
  refine j_istore_n (ls' := [some (vR _), some (vL _), none, some (vI _)]) C dX11_isNamed_42 (by decide) rfl ?_
  exact X11_isNamed_L43_ok C hlv N h
theorem dX11_fresh_0 : decode cX11_fresh 0 = .ok (.aload_n 0, 1) := by decide +kernel
theorem dX11_fresh_1 : decode cX11_fresh 1 = .ok (.invokevirtual 271, 3) := by decide +kernel
theorem dX11_fresh_4 : decode cX11_fresh 4 = .ok (.aload_n 0, 1) := by decide +kernel
theorem dX11_fresh_5 : decode cX11_fresh 5 = .ok (.getfield 36, 3) := by decide +kernel
theorem dX11_fresh_8 : decode cX11_fresh 8 = .ok (.ifCond .le 5, 3) := by decide +kernel
theorem dX11_fresh_11 : decode cX11_fresh 11 = .ok (.lconst 0, 1) := by decide +kernel
theorem dX11_fresh_12 : decode cX11_fresh 12 = .ok (.lreturn, 1) := by decide +kernel
theorem dX11_fresh_13 : decode cX11_fresh 13 = .ok (.aload_n 0, 1) := by decide +kernel
theorem dX11_fresh_14 : decode cX11_fresh 14 = .ok (.getfield 20, 3) := by decide +kernel
theorem dX11_fresh_17 : decode cX11_fresh 17 = .ok (.iconst 1, 1) := by decide +kernel
theorem dX11_fresh_18 : decode cX11_fresh 18 = .ok (.if_icmp .ne 14, 3) := by decide +kernel
theorem dX11_fresh_21 : decode cX11_fresh 21 = .ok (.aload_n 0, 1) := by decide +kernel
theorem dX11_fresh_22 : decode cX11_fresh 22 = .ok (.aload_n 0, 1) := by decide +kernel
theorem dX11_fresh_23 : decode cX11_fresh 23 = .ok (.getfield 32, 3) := by decide +kernel
theorem dX11_fresh_26 : decode cX11_fresh 26 = .ok (.invokevirtual 267, 3) := by decide +kernel
theorem dX11_fresh_29 : decode cX11_fresh 29 = .ok (.ifCond .eq 12, 3) := by decide +kernel
theorem dX11_fresh_32 : decode cX11_fresh 32 = .ok (.aload_n 0, 1) := by decide +kernel
theorem dX11_fresh_33 : decode cX11_fresh 33 = .ok (.iconst 1, 1) := by decide +kernel
theorem dX11_fresh_34 : decode cX11_fresh 34 = .ok (.aload_n 0, 1) := by decide +kernel
theorem dX11_fresh_35 : decode cX11_fresh 35 = .ok (.getfield 23, 3) := by decide +kernel
theorem dX11_fresh_38 : decode cX11_fresh 38 = .ok (.invokevirtual 256, 3) := by decide +kernel
theorem dX11_fresh_41 : decode cX11_fresh 41 = .ok (.aload_n 0, 1) := by decide +kernel
theorem dX11_fresh_42 : decode cX11_fresh 42 = .ok (.getfield 36, 3) := by decide +kernel
theorem dX11_fresh_45 : decode cX11_fresh 45 = .ok (.ifCond .ne 23, 3) := by decide +kernel
theorem dX11_fresh_48 : decode cX11_fresh 48 = .ok (.aload_n 0, 1) := by decide +kernel
theorem dX11_fresh_49 : decode cX11_fresh 49 = .ok (.aload_n 0, 1) := by decide +kernel
theorem dX11_fresh_50 : decode cX11_fresh 50 = .ok (.getfield 32, 3) := by decide +kernel
theorem dX11_fresh_53 : decode cX11_fresh 53 = .ok (.invokevirtual 369, 3) := by decide +kernel
theorem dX11_fresh_56 : decode cX11_fresh 56 = .ok (.ifCond .eq 12, 3) := by decide +kernel
theorem dX11_fresh_59 : decode cX11_fresh 59 = .ok (.aload_n 0, 1) := by decide +kernel
theorem dX11_fresh_60 : decode cX11_fresh 60 = .ok (.iconst 2, 1) := by decide +kernel
theorem dX11_fresh_61 : decode cX11_fresh 61 = .ok (.aload_n 0, 1) := by decide +kernel
theorem dX11_fresh_62 : decode cX11_fresh 62 = .ok (.getfield 23, 3) := by decide +kernel
theorem dX11_fresh_65 : decode cX11_fresh 65 = .ok (.invokevirtual 256, 3) := by decide +kernel
theorem dX11_fresh_68 : decode cX11_fresh 68 = .ok (.aload_n 0, 1) := by decide +kernel
theorem dX11_fresh_69 : decode cX11_fresh 69 = .ok (.getfield 32, 3) := by decide +kernel
theorem dX11_fresh_72 : decode cX11_fresh 72 = .ok (.lstore_n 1, 1) := by decide +kernel
theorem dX11_fresh_73 : decode cX11_fresh 73 = .ok (.aload_n 0, 1) := by decide +kernel
theorem dX11_fresh_74 : decode cX11_fresh 74 = .ok (.getfield 36, 3) := by decide +kernel
theorem dX11_fresh_77 : decode cX11_fresh 77 = .ok (.ifCond .ne 7, 3) := by decide +kernel
theorem dX11_fresh_80 : decode cX11_fresh 80 = .ok (.aload_n 0, 1) := by decide +kernel
theorem dX11_fresh_81 : decode cX11_fresh 81 = .ok (.invokevirtual 277, 3) := by decide +kernel
theorem dX11_fresh_84 : decode cX11_fresh 84 = .ok (.lload_n 1, 1) := by decide +kernel
theorem dX11_fresh_85 : decode cX11_fresh 85 = .ok (.lreturn, 1) := by decide +kernel
set_option maxRecDepth 100000 in
set_option maxHeartbeats 4000000 in
theorem X11_fresh_J68_ok {g : Gm} {w : Wd} (C : Cx g w RX11 cX11_fresh 3 (some .long)) {lv : Nat} (hlv : 2 < lv) {N : Nat} {l0 : Nat} {m : Mem} {out : (Int × Mem)} (h : X11_fresh_J68 N l0 m = some out) : Jd g w 3 (rmL lv 0 0) (Qm g w (some (vL out.1)) out.2) 68 [some (vR l0), none, none] [] 312 m 0 0 := by
  unfold X11_fresh_J68 at h
  refine j_aload_n C dX11_fresh_68 rfl ?_
  refine j_getL C dX11_fresh_69 CF11 (by decide) fl_X11_32 rfl rfl h (fun t7 h => ?_)
  refine j_lstore_n (ls' := [some (vR _), some (vL _), none]) C dX11_fresh_72 (by decide) rfl ?_
  refine j_aload_n C dX11_fresh_73 rfl ?_
  refine j_getI C dX11_fresh_74 CF11 (by decide) fl_X11_36 rfl rfl h (fun t8 h => ?_)
  refine j_if_ne C 84 dX11_fresh_77 rfl h (fun c10 h => ?_) (fun c10 h => ?_)
  · refine j_lload_n C dX11_fresh_84 rfl ?_
    have e := Option.some.inj h
    subst e
    exact j_rl C dX11_fresh_85 rfl rfl rfl
  · refine j_aload_n C dX11_fresh_80 rfl ?_
    obtain ⟨p9, ep9, h⟩ := bind_some h
    have qp9 := X11_ahead_ct ep9
    refine j_cVV C dX11_fresh_81 vl_X11_277 CF11 rfl qp9.1 qp9.2 (by omega) rfl rfl (Nat.le_of_ble_eq_true rfl) ?_
    refine j_lload_n C dX11_fresh_84 rfl ?_
    have e := Option.some.inj h
    subst e
    exact j_rl C dX11_fresh_85 rfl rfl rfl
set_option maxRecDepth 100000 in
set_option maxHeartbeats 4000000 in
theorem X11_fresh_J41_ok {g : Gm} {w : Wd} (C : Cx g w RX11 cX11_fresh 3 (some .long)) {lv : Nat} (hlv : 2 < lv) {N : Nat} {l0 : Nat} {m : Mem} {out : (Int × Mem)} (h : X11_fresh_J41 N l0 m = some out) : Jd g w 3 (rmL lv 0 0) (Qm g w (some (vL out.1)) out.2) 41 [some (vR l0), none, none] [] 312 m 0 0 := by
  unfold X11_fresh_J41 at h
  refine j_aload_n C dX11_fresh_41 rfl ?_
  refine j_getI C dX11_fresh_42 CF11 (by decide) fl_X11_36 rfl rfl h (fun t6 h => ?_)
  refine j_if_ne C 68 dX11_fresh_45 rfl h (fun c16 h => ?_) (fun c16 h => ?_)
  · exact X11_fresh_J68_ok C hlv h
  · refine j_aload_n C dX11_fresh_48 rfl ?_
    refine j_aload_n C dX11_fresh_49 rfl ?_
    refine j_getL C dX11_fresh_50 CF11 (by decide) fl_X11_32 rfl rfl h (fun t11 h => ?_)
    obtain ⟨p12, ep12, h⟩ := bind_some h
    have qp12 := X11_isNamed_ct ep12
    refine j_cVI C dX11_fresh_53 vl_X11_369 CF11 rfl qp12.1 qp12.2 (by omega) rfl rfl (Nat.le_of_ble_eq_true rfl) ?_
    refine j_if_eq C 68 dX11_fresh_56 rfl h (fun c15 h => ?_) (fun c15 h => ?_)
    · exact X11_fresh_J68_ok C hlv h
    · refine j_aload_n C dX11_fresh_59 rfl ?_
      refine j_iconst C dX11_fresh_60 rfl ?_
      refine j_aload_n C dX11_fresh_61 rfl ?_
      refine j_getI C dX11_fresh_62 CF11 (by decide) fl_X11_23 rfl rfl h (fun t13 h => ?_)
      obtain ⟨p14, ep14, h⟩ := bind_some h
      have qp14 := X11_blame_ct ep14
      refine j_cVV C dX11_fresh_65 vl_X11_256 CF11 rfl qp14.1 qp14.2 (by omega) rfl rfl (Nat.le_of_ble_eq_true rfl) ?_
      exact X11_fresh_J68_ok C hlv h
set_option maxRecDepth 100000 in
set_option maxHeartbeats 4000000 in
theorem X11_fresh_J32_ok {g : Gm} {w : Wd} (C : Cx g w RX11 cX11_fresh 3 (some .long)) {lv : Nat} (hlv : 2 < lv) {N : Nat} {l0 : Nat} {m : Mem} {out : (Int × Mem)} (h : X11_fresh_J32 N l0 m = some out) : Jd g w 3 (rmL lv 0 0) (Qm g w (some (vL out.1)) out.2) 32 [some (vR l0), none, none] [] 312 m 0 0 := by
  unfold X11_fresh_J32 at h
  refine j_aload_n C dX11_fresh_32 rfl ?_
  refine j_iconst C dX11_fresh_33 rfl ?_
  refine j_aload_n C dX11_fresh_34 rfl ?_
  refine j_getI C dX11_fresh_35 CF11 (by decide) fl_X11_23 rfl rfl h (fun t4 h => ?_)
  obtain ⟨p5, ep5, h⟩ := bind_some h
  have qp5 := X11_blame_ct ep5
  refine j_cVV C dX11_fresh_38 vl_X11_256 CF11 rfl qp5.1 qp5.2 (by omega) rfl rfl (Nat.le_of_ble_eq_true rfl) ?_
  exact X11_fresh_J41_ok C hlv h
set_option maxRecDepth 100000 in
set_option maxHeartbeats 4000000 in
theorem X11_fresh_ct {N : Nat} {l0 : Nat} {m : Mem} {out : (Int × Mem)} (h : X11_fresh N l0 m = some out) : shK l0 = 11 + 10 ∧ CT yX11_fresh cX11_fresh 3 (some .long) 3 0 0 [vR l0] 312 m (some (vL out.1)) 312 out.2 := by
  unfold X11_fresh at h
  obtain ⟨hK, h⟩ := ite_some h
  have hlv : 2 < 3 := by decide
  refine ⟨hK, CT.of (by decide +kernel) rfl (Nat.le_of_ble_eq_true rfl) (ls := [some (vR l0), none, none]) rfl fun g w C _ => ?_⟩
  refine j_aload_n C dX11_fresh_0 rfl ?_
  obtain ⟨p1, ep1, h⟩ := bind_some h
  have qp1 := X11_lex_ct ep1
  refine j_cVV C dX11_fresh_1 vl_X11_271 CF11 rfl qp1.1 qp1.2 (by omega) rfl rfl (Nat.le_of_ble_eq_true rfl) ?_
  refine j_aload_n C dX11_fresh_4 rfl ?_
  refine j_getI C dX11_fresh_5 CF11 (by decide) fl_X11_36 rfl rfl h (fun t2 h => ?_)
  refine j_if_le C 13 dX11_fresh_8 rfl h (fun c21 h => ?_) (fun c21 h => ?_)
  · refine j_aload_n C dX11_fresh_13 rfl ?_
    refine j_getI C dX11_fresh_14 CF11 (by decide) fl_X11_20 rfl rfl h (fun t3 h => ?_)
    refine j_iconst C dX11_fresh_17 rfl ?_
    refine j_icmp_ne C 32 dX11_fresh_18 rfl h (fun c20 h => ?_) (fun c20 h => ?_)
    · exact X11_fresh_J32_ok C hlv h
    · refine j_aload_n C dX11_fresh_21 rfl ?_
      refine j_aload_n C dX11_fresh_22 rfl ?_
      refine j_getL C dX11_fresh_23 CF11 (by decide) fl_X11_32 rfl rfl h (fun t17 h => ?_)
      obtain ⟨p18, ep18, h⟩ := bind_some h
      have qp18 := X11_isOwn_ct ep18
      refine j_cVI C dX11_fresh_26 vl_X11_267 CF11 rfl qp18.1 qp18.2 (by omega) rfl rfl (Nat.le_of_ble_eq_true rfl) ?_
      refine j_if_eq C 41 dX11_fresh_29 rfl h (fun c19 h => ?_) (fun c19 h => ?_)
      · exact X11_fresh_J41_ok C hlv h
      · exact X11_fresh_J32_ok C hlv h
  · refine j_lconst (v := 0) C dX11_fresh_11 rfl rfl ?_
    have e := Option.some.inj h
    subst e
    exact j_rl C dX11_fresh_12 rfl rfl rfl
theorem dX11_cisterning_0 : decode cX11_cisterning 0 = .ok (.aload_n 0, 1) := by decide +kernel
theorem dX11_cisterning_1 : decode cX11_cisterning 1 = .ok (.aload_n 0, 1) := by decide +kernel
theorem dX11_cisterning_2 : decode cX11_cisterning 2 = .ok (.getfield 75, 3) := by decide +kernel
theorem dX11_cisterning_5 : decode cX11_cisterning 5 = .ok (.aload_n 0, 1) := by decide +kernel
theorem dX11_cisterning_6 : decode cX11_cisterning 6 = .ok (.getfield 133, 3) := by decide +kernel
theorem dX11_cisterning_9 : decode cX11_cisterning 9 = .ok (.iaload, 1) := by decide +kernel
theorem dX11_cisterning_10 : decode cX11_cisterning 10 = .ok (.iconst 5, 1) := by decide +kernel
theorem dX11_cisterning_11 : decode cX11_cisterning 11 = .ok (.if_icmp .ne 7, 3) := by decide +kernel
theorem dX11_cisterning_14 : decode cX11_cisterning 14 = .ok (.iconst 1, 1) := by decide +kernel
theorem dX11_cisterning_15 : decode cX11_cisterning 15 = .ok (.goto 4, 3) := by decide +kernel
theorem dX11_cisterning_18 : decode cX11_cisterning 18 = .ok (.iconst 0, 1) := by decide +kernel
theorem dX11_cisterning_19 : decode cX11_cisterning 19 = .ok (.invokevirtual 382, 3) := by decide +kernel
theorem dX11_cisterning_22 : decode cX11_cisterning 22 = .ok (.ifCond .ne 4, 3) := by decide +kernel
theorem dX11_cisterning_25 : decode cX11_cisterning 25 = .ok (.return_, 1) := by decide +kernel
theorem dX11_cisterning_26 : decode cX11_cisterning 26 = .ok (.iconst 5, 1) := by decide +kernel
theorem dX11_cisterning_27 : decode cX11_cisterning 27 = .ok (.aload_n 0, 1) := by decide +kernel
theorem dX11_cisterning_28 : decode cX11_cisterning 28 = .ok (.getfield 133, 3) := by decide +kernel
theorem dX11_cisterning_31 : decode cX11_cisterning 31 = .ok (.imul, 1) := by decide +kernel
theorem dX11_cisterning_32 : decode cX11_cisterning 32 = .ok (.aload_n 0, 1) := by decide +kernel
theorem dX11_cisterning_33 : decode cX11_cisterning 33 = .ok (.getfield 75, 3) := by decide +kernel
theorem dX11_cisterning_36 : decode cX11_cisterning 36 = .ok (.aload_n 0, 1) := by decide +kernel
theorem dX11_cisterning_37 : decode cX11_cisterning 37 = .ok (.getfield 133, 3) := by decide +kernel
theorem dX11_cisterning_40 : decode cX11_cisterning 40 = .ok (.iaload, 1) := by decide +kernel
theorem dX11_cisterning_41 : decode cX11_cisterning 41 = .ok (.iadd, 1) := by decide +kernel
theorem dX11_cisterning_42 : decode cX11_cisterning 42 = .ok (.istore_n 1, 1) := by decide +kernel
theorem dX11_cisterning_43 : decode cX11_cisterning 43 = .ok (.aload_n 0, 1) := by decide +kernel
theorem dX11_cisterning_44 : decode cX11_cisterning 44 = .ok (.getfield 123, 3) := by decide +kernel
theorem dX11_cisterning_47 : decode cX11_cisterning 47 = .ok (.iload_n 1, 1) := by decide +kernel
theorem dX11_cisterning_48 : decode cX11_cisterning 48 = .ok (.aload_n 0, 1) := by decide +kernel
theorem dX11_cisterning_49 : decode cX11_cisterning 49 = .ok (.invokevirtual 390, 3) := by decide +kernel
theorem dX11_cisterning_52 : decode cX11_cisterning 52 = .ok (.lastore, 1) := by decide +kernel
theorem dX11_cisterning_53 : decode cX11_cisterning 53 = .ok (.aload_n 0, 1) := by decide +kernel
theorem dX11_cisterning_54 : decode cX11_cisterning 54 = .ok (.getfield 78, 3) := by decide +kernel
theorem dX11_cisterning_57 : decode cX11_cisterning 57 = .ok (.iload_n 1, 1) := by decide +kernel
theorem dX11_cisterning_58 : decode cX11_cisterning 58 = .ok (.aload_n 0, 1) := by decide +kernel
theorem dX11_cisterning_59 : decode cX11_cisterning 59 = .ok (.iconst 1, 1) := by decide +kernel
theorem dX11_cisterning_60 : decode cX11_cisterning 60 = .ok (.invokevirtual 386, 3) := by decide +kernel
theorem dX11_cisterning_63 : decode cX11_cisterning 63 = .ok (.iastore, 1) := by decide +kernel
theorem dX11_cisterning_64 : decode cX11_cisterning 64 = .ok (.aload_n 0, 1) := by decide +kernel
theorem dX11_cisterning_65 : decode cX11_cisterning 65 = .ok (.getfield 36, 3) := by decide +kernel
theorem dX11_cisterning_68 : decode cX11_cisterning 68 = .ok (.ifCond .ne 16, 3) := by decide +kernel
theorem dX11_cisterning_71 : decode cX11_cisterning 71 = .ok (.aload_n 0, 1) := by decide +kernel
theorem dX11_cisterning_72 : decode cX11_cisterning 72 = .ok (.getfield 75, 3) := by decide +kernel
theorem dX11_cisterning_75 : decode cX11_cisterning 75 = .ok (.aload_n 0, 1) := by decide +kernel
theorem dX11_cisterning_76 : decode cX11_cisterning 76 = .ok (.getfield 133, 3) := by decide +kernel
theorem dX11_cisterning_79 : decode cX11_cisterning 79 = .ok (.dup2, 1) := by decide +kernel
theorem dX11_cisterning_80 : decode cX11_cisterning 80 = .ok (.iaload, 1) := by decide +kernel
theorem dX11_cisterning_81 : decode cX11_cisterning 81 = .ok (.iconst 1, 1) := by decide +kernel
theorem dX11_cisterning_82 : decode cX11_cisterning 82 = .ok (.iadd, 1) := by decide +kernel
theorem dX11_cisterning_83 : decode cX11_cisterning 83 = .ok (.iastore, 1) := by decide +kernel
theorem dX11_cisterning_84 : decode cX11_cisterning 84 = .ok (.return_, 1) := by decide +kernel
set_option maxRecDepth 100000 in
set_option maxHeartbeats 4000000 in
theorem X11_cisterning_J19_ok {g : Gm} {w : Wd} (C : Cx g w RX11 cX11_cisterning 2 none) {lv : Nat} (hlv : 5 < lv) {N : Nat} {l0 : Nat} {s0 : Nat} {s1 : Int} {m : Mem} {out : Mem} (h : X11_cisterning_J19 N l0 s0 s1 m = some out) : Jd g w 2 (rmL lv 0 0) (Qm g w none out) 19 [some (vR l0), none] [vI s1, vR s0] 312 m 0 0 := by
  unfold X11_cisterning_J19 at h
  obtain ⟨p4, ep4, h⟩ := bind_some h
  have qp4 := X11_counts_ct ep4
  refine j_cVI C dX11_cisterning_19 vl_X11_382 CF11 rfl qp4.1 qp4.2 (by omega) rfl rfl (Nat.le_of_ble_eq_true rfl) ?_
  refine j_if_ne C 26 dX11_cisterning_22 rfl h (fun c21 h => ?_) (fun c21 h => ?_)
  · refine j_iconst C dX11_cisterning_26 rfl ?_
    refine j_aload_n C dX11_cisterning_27 rfl ?_
    refine j_getI C dX11_cisterning_28 CF11 (by decide) fl_X11_133 rfl rfl h (fun t5 h => ?_)
    refine j_imul C dX11_cisterning_31 ?_
    refine j_aload_n C dX11_cisterning_32 rfl ?_
    refine j_getR C dX11_cisterning_33 CF11 (by decide) fl_X11_75 rfl rfl h (fun t6 h => ?_)
    refine j_aload_n C dX11_cisterning_36 rfl ?_
    refine j_getI C dX11_cisterning_37 CF11 (by decide) fl_X11_133 rfl rfl h (fun t7 h => ?_)
    refine j_iald C dX11_cisterning_40 rfl h (fun t8 h => ?_)
    refine j_iadd C dX11_cisterning_41 ?_
    refine j_istore_n (ls' := [some (vR _), some (vI _)]) C dX11_cisterning_42 (by decide) rfl ?_
    refine j_aload_n C dX11_cisterning_43 rfl ?_
    refine j_getR C dX11_cisterning_44 CF11 (by decide) fl_X11_123 rfl rfl h (fun t9 h => ?_)
    refine j_iload_n C dX11_cisterning_47 rfl ?_
    refine j_aload_n C dX11_cisterning_48 rfl ?_
    obtain ⟨p10, ep10, h⟩ := bind_some h
    have qp10 := X11_fresh_ct ep10
    refine j_cVL C dX11_cisterning_49 vl_X11_390 CF11 rfl qp10.1 qp10.2 (by omega) rfl rfl (Nat.le_of_ble_eq_true rfl) ?_
    refine j_last C dX11_cisterning_52 rfl h (fun m11 h => ?_)
    refine j_aload_n C dX11_cisterning_53 rfl ?_
    refine j_getR C dX11_cisterning_54 CF11 (by decide) fl_X11_78 rfl rfl h (fun t12 h => ?_)
    refine j_iload_n C dX11_cisterning_57 rfl ?_
    refine j_aload_n C dX11_cisterning_58 rfl ?_
    refine j_iconst C dX11_cisterning_59 rfl ?_
    obtain ⟨p13, ep13, h⟩ := bind_some h
    have qp13 := X11_cellAt_ct ep13
    refine j_cVI C dX11_cisterning_60 vl_X11_386 CF11 rfl qp13.1 qp13.2 (by omega) rfl rfl (Nat.le_of_ble_eq_true rfl) ?_
    refine j_iast C dX11_cisterning_63 rfl h (fun m14 h => ?_)
    refine j_aload_n C dX11_cisterning_64 rfl ?_
    refine j_getI C dX11_cisterning_65 CF11 (by decide) fl_X11_36 rfl rfl h (fun t15 h => ?_)
    refine j_if_ne C 84 dX11_cisterning_68 rfl h (fun c20 h => ?_) (fun c20 h => ?_)
    · have e := Option.some.inj h
      subst e
      exact j_rv C dX11_cisterning_84 rfl rfl
    · refine j_aload_n C dX11_cisterning_71 rfl ?_
      refine j_getR C dX11_cisterning_72 CF11 (by decide) fl_X11_75 rfl rfl h (fun t16 h => ?_)
      refine j_aload_n C dX11_cisterning_75 rfl ?_
      refine j_getI C dX11_cisterning_76 CF11 (by decide) fl_X11_133 rfl rfl h (fun t17 h => ?_)
      refine j_dup2 C dX11_cisterning_79 rfl rfl ?_
      refine j_iald C dX11_cisterning_80 rfl h (fun t18 h => ?_)
      refine j_iconst C dX11_cisterning_81 rfl ?_
      refine j_iadd C dX11_cisterning_82 ?_
      refine j_iast C dX11_cisterning_83 rfl h (fun m19 h => ?_)
      have e := Option.some.inj h
      subst e
      exact j_rv C dX11_cisterning_84 rfl rfl
  · have e := Option.some.inj h
    subst e
    exact j_rv C dX11_cisterning_25 rfl rfl
set_option maxRecDepth 100000 in
set_option maxHeartbeats 4000000 in
theorem X11_cisterning_ct {N : Nat} {l0 : Nat} {m : Mem} {out : Mem} (h : X11_cisterning N l0 m = some out) : shK l0 = 11 + 10 ∧ CT yX11_cisterning cX11_cisterning 2 none 6 0 0 [vR l0] 312 m none 312 out := by
  unfold X11_cisterning at h
  obtain ⟨hK, h⟩ := ite_some h
  have hlv : 5 < 6 := by decide
  refine ⟨hK, CT.of (by decide +kernel) rfl (Nat.le_of_ble_eq_true rfl) (ls := [some (vR l0), none]) rfl fun g w C _ => ?_⟩
  refine j_aload_n C dX11_cisterning_0 rfl ?_
  refine j_aload_n C dX11_cisterning_1 rfl ?_
  refine j_getR C dX11_cisterning_2 CF11 (by decide) fl_X11_75 rfl rfl h (fun t1 h => ?_)
  refine j_aload_n C dX11_cisterning_5 rfl ?_
  refine j_getI C dX11_cisterning_6 CF11 (by decide) fl_X11_133 rfl rfl h (fun t2 h => ?_)
  refine j_iald C dX11_cisterning_9 rfl h (fun t3 h => ?_)
  refine j_iconst C dX11_cisterning_10 rfl ?_
  refine j_icmp_ne C 18 dX11_cisterning_11 rfl h (fun c22 h => ?_) (fun c22 h => ?_)
  · refine j_iconst C dX11_cisterning_18 rfl ?_
    exact X11_cisterning_J19_ok C hlv h
  · refine j_iconst C dX11_cisterning_14 rfl ?_
    refine j_goto C 19 dX11_cisterning_15 rfl ?_
    exact X11_cisterning_J19_ok C hlv h
theorem dX11_cold_0 : decode cX11_cold 0 = .ok (.aload_n 0, 1) := by decide +kernel
theorem dX11_cold_1 : decode cX11_cold 1 = .ok (.iload_n 1, 1) := by decide +kernel
theorem dX11_cold_2 : decode cX11_cold 2 = .ok (.invokevirtual 532, 3) := by decide +kernel
theorem dX11_cold_5 : decode cX11_cold 5 = .ok (.ifCond .eq 13, 3) := by decide +kernel
theorem dX11_cold_8 : decode cX11_cold 8 = .ok (.iload_n 2, 1) := by decide +kernel
theorem dX11_cold_9 : decode cX11_cold 9 = .ok (.iconst 0, 1) := by decide +kernel
theorem dX11_cold_10 : decode cX11_cold 10 = .ok (.bipush 12, 2) := by decide +kernel
theorem dX11_cold_12 : decode cX11_cold 12 = .ok (.invokestatic 334, 3) := by decide +kernel
theorem dX11_cold_15 : decode cX11_cold 15 = .ok (.ifCond .ne 5, 3) := by decide +kernel
theorem dX11_cold_18 : decode cX11_cold 18 = .ok (.iconst (-1), 1) := by decide +kernel
theorem dX11_cold_19 : decode cX11_cold 19 = .ok (.ireturn, 1) := by decide +kernel
theorem dX11_cold_20 : decode cX11_cold 20 = .ok (.aload_n 0, 1) := by decide +kernel
theorem dX11_cold_21 : decode cX11_cold 21 = .ok (.iconst 0, 1) := by decide +kernel
theorem dX11_cold_22 : decode cX11_cold 22 = .ok (.invokevirtual 544, 3) := by decide +kernel
theorem dX11_cold_25 : decode cX11_cold 25 = .ok (.aload_n 0, 1) := by decide +kernel
theorem dX11_cold_26 : decode cX11_cold 26 = .ok (.getfield 203, 3) := by decide +kernel
theorem dX11_cold_29 : decode cX11_cold 29 = .ok (.bipush 42, 2) := by decide +kernel
theorem dX11_cold_31 : decode cX11_cold 31 = .ok (.iload_n 2, 1) := by decide +kernel
theorem dX11_cold_32 : decode cX11_cold 32 = .ok (.imul, 1) := by decide +kernel
theorem dX11_cold_33 : decode cX11_cold 33 = .ok (.iload_n 1, 1) := by decide +kernel
theorem dX11_cold_34 : decode cX11_cold 34 = .ok (.iadd, 1) := by decide +kernel
theorem dX11_cold_35 : decode cX11_cold 35 = .ok (.iaload, 1) := by decide +kernel
theorem dX11_cold_36 : decode cX11_cold 36 = .ok (.ireturn, 1) := by decide +kernel
set_option maxRecDepth 100000 in
set_option maxHeartbeats 4000000 in
theorem X11_cold_ct {N : Nat} {l0 : Nat} {l1 : Int} {l2 : Int} {m : Mem} {out : (Int × Mem)} (h : X11_cold N l0 l1 l2 m = some out) : shK l0 = 11 + 10 ∧ CT yX11_cold cX11_cold 3 (some .int) 9 0 0 [vR l0, vI l1, vI l2] 312 m (some (vI out.1)) 312 out.2 := by
  unfold X11_cold at h
  obtain ⟨hK, h⟩ := ite_some h
  have hlv : 8 < 9 := by decide
  refine ⟨hK, CT.of (by decide +kernel) rfl (Nat.le_of_ble_eq_true rfl) (ls := [some (vR l0), some (vI l1), some (vI l2)]) rfl fun g w C _ => ?_⟩
  refine j_aload_n C dX11_cold_0 rfl ?_
  refine j_iload_n C dX11_cold_1 rfl ?_
  obtain ⟨p1, ep1, h⟩ := bind_some h
  have qp1 := X11_isCell_ct ep1
  refine j_cVI C dX11_cold_2 vl_X11_532 CF11 rfl qp1.1 qp1.2 (by omega) rfl rfl (Nat.le_of_ble_eq_true rfl) ?_
  refine j_if_eq C 18 dX11_cold_5 rfl h (fun c7 h => ?_) (fun c7 h => ?_)
  · refine j_iconst C dX11_cold_18 rfl ?_
    have e := Option.some.inj h
    subst e
    exact j_ri C dX11_cold_19 rfl rfl rfl
  · refine j_iload_n C dX11_cold_8 rfl ?_
    refine j_iconst C dX11_cold_9 rfl ?_
    refine j_bipush C dX11_cold_10 rfl ?_
    obtain ⟨p2, ep2, h⟩ := bind_some h
    have qp2 := X11_is_ct ep2
    refine j_cSI C dX11_cold_12 sl_X11_334 qp2 (by omega) rfl rfl (Nat.le_of_ble_eq_true rfl) ?_
    refine j_if_ne C 20 dX11_cold_15 rfl h (fun c6 h => ?_) (fun c6 h => ?_)
    · refine j_aload_n C dX11_cold_20 rfl ?_
      refine j_iconst C dX11_cold_21 rfl ?_
      obtain ⟨p3, ep3, h⟩ := bind_some h
      have qp3 := X11_nightAsTold_ct ep3
      refine j_cVV C dX11_cold_22 vl_X11_544 CF11 rfl qp3.1 qp3.2 (by omega) rfl rfl (Nat.le_of_ble_eq_true rfl) ?_
      refine j_aload_n C dX11_cold_25 rfl ?_
      refine j_getR C dX11_cold_26 CF11 (by decide) fl_X11_203 rfl rfl h (fun t4 h => ?_)
      refine j_bipush C dX11_cold_29 rfl ?_
      refine j_iload_n C dX11_cold_31 rfl ?_
      refine j_imul C dX11_cold_32 ?_
      refine j_iload_n C dX11_cold_33 rfl ?_
      refine j_iadd C dX11_cold_34 ?_
      refine j_iald C dX11_cold_35 rfl h (fun t5 h => ?_)
      have e := Option.some.inj h
      subst e
      exact j_ri C dX11_cold_36 rfl rfl rfl
    · refine j_iconst C dX11_cold_18 rfl ?_
      have e := Option.some.inj h
      subst e
      exact j_ri C dX11_cold_19 rfl rfl rfl
theorem dX11_isIsland_0 : decode cX11_isIsland 0 = .ok (.aload_n 0, 1) := by decide +kernel
theorem dX11_isIsland_1 : decode cX11_isIsland 1 = .ok (.getfield 54, 3) := by decide +kernel
theorem dX11_isIsland_4 : decode cX11_isIsland 4 = .ok (.aload_n 0, 1) := by decide +kernel
theorem dX11_isIsland_5 : decode cX11_isIsland 5 = .ok (.getfield 51, 3) := by decide +kernel
theorem dX11_isIsland_8 : decode cX11_isIsland 8 = .ok (.iaload, 1) := by decide +kernel
theorem dX11_isIsland_9 : decode cX11_isIsland 9 = .ok (.ifCond .le 7, 3) := by decide +kernel
theorem dX11_isIsland_12 : decode cX11_isIsland 12 = .ok (.iconst 1, 1) := by decide +kernel
theorem dX11_isIsland_13 : decode cX11_isIsland 13 = .ok (.goto 4, 3) := by decide +kernel
theorem dX11_isIsland_16 : decode cX11_isIsland 16 = .ok (.iconst 0, 1) := by decide +kernel
theorem dX11_isIsland_17 : decode cX11_isIsland 17 = .ok (.ireturn, 1) := by decide +kernel
set_option maxRecDepth 100000 in
set_option maxHeartbeats 4000000 in
theorem X11_isIsland_ct {l0 : Nat} {m : Mem} {out : Int} (h : X11_isIsland l0 m = some out) : shK l0 = 11 + 10 ∧ CT yX11_isIsland cX11_isIsland 1 (some .boolean) 1 0 0 [vR l0] 312 m (some (vI out)) 312 m := by
  unfold X11_isIsland at h
  obtain ⟨hK, h⟩ := ite_some h
  have hlv : 0 < 1 := by decide
  refine ⟨hK, CT.of (by decide +kernel) rfl (Nat.le_of_ble_eq_true rfl) (ls := [some (vR l0)]) rfl fun g w C _ => ?_⟩
  refine j_aload_n C dX11_isIsland_0 rfl ?_
  refine j_getR C dX11_isIsland_1 CF11 (by decide) fl_X11_54 rfl rfl h (fun t1 h => ?_)
  refine j_aload_n C dX11_isIsland_4 rfl ?_
  refine j_getI C dX11_isIsland_5 CF11 (by decide) fl_X11_51 rfl rfl h (fun t2 h => ?_)
  refine j_iald C dX11_isIsland_8 rfl h (fun t3 h => ?_)
  refine j_if_le C 16 dX11_isIsland_9 rfl h (fun c4 h => ?_) (fun c4 h => ?_)
  · refine j_iconst C dX11_isIsland_16 rfl ?_
    exact j_rz C dX11_isIsland_17 rfl (retZ_some h) rfl
  · refine j_iconst C dX11_isIsland_12 rfl ?_
    refine j_goto C 17 dX11_isIsland_13 rfl ?_
    exact j_rz C dX11_isIsland_17 rfl (retZ_some h) rfl
theorem dX11_twoBytes_0 : decode cX11_twoBytes 0 = .ok (.aload_n 0, 1) := by decide +kernel
theorem dX11_twoBytes_1 : decode cX11_twoBytes 1 = .ok (.getfield 7, 3) := by decide +kernel
theorem dX11_twoBytes_4 : decode cX11_twoBytes 4 = .ok (.iload_n 1, 1) := by decide +kernel
theorem dX11_twoBytes_5 : decode cX11_twoBytes 5 = .ok (.iaload, 1) := by decide +kernel
theorem dX11_twoBytes_6 : decode cX11_twoBytes 6 = .ok (.bipush 8, 2) := by decide +kernel
theorem dX11_twoBytes_8 : decode cX11_twoBytes 8 = .ok (.ishl, 1) := by decide +kernel
theorem dX11_twoBytes_9 : decode cX11_twoBytes 9 = .ok (.aload_n 0, 1) := by decide +kernel
theorem dX11_twoBytes_10 : decode cX11_twoBytes 10 = .ok (.getfield 7, 3) := by decide +kernel
theorem dX11_twoBytes_13 : decode cX11_twoBytes 13 = .ok (.iload_n 1, 1) := by decide +kernel
theorem dX11_twoBytes_14 : decode cX11_twoBytes 14 = .ok (.iconst 1, 1) := by decide +kernel
theorem dX11_twoBytes_15 : decode cX11_twoBytes 15 = .ok (.iadd, 1) := by decide +kernel
theorem dX11_twoBytes_16 : decode cX11_twoBytes 16 = .ok (.iaload, 1) := by decide +kernel
theorem dX11_twoBytes_17 : decode cX11_twoBytes 17 = .ok (.ior, 1) := by decide +kernel
theorem dX11_twoBytes_18 : decode cX11_twoBytes 18 = .ok (.ireturn, 1) := by decide +kernel
set_option maxRecDepth 100000 in
set_option maxHeartbeats 4000000 in
theorem X11_twoBytes_ct {l0 : Nat} {l1 : Int} {m : Mem} {out : Int} (h : X11_twoBytes l0 l1 m = some out) : shK l0 = 11 + 10 ∧ CT yX11_twoBytes cX11_twoBytes 2 (some .int) 1 0 0 [vR l0, vI l1] 312 m (some (vI out)) 312 m := by
  unfold X11_twoBytes at h
  obtain ⟨hK, h⟩ := ite_some h
  have hlv : 0 < 1 := by decide
  refine ⟨hK, CT.of (by decide +kernel) rfl (Nat.le_of_ble_eq_true rfl) (ls := [some (vR l0), some (vI l1)]) rfl fun g w C _ => ?_⟩
  refine j_aload_n C dX11_twoBytes_0 rfl ?_
  refine j_getR C dX11_twoBytes_1 CF11 (by decide) fl_X11_7 rfl rfl h (fun t1 h => ?_)
  refine j_iload_n C dX11_twoBytes_4 rfl ?_
  refine j_iald C dX11_twoBytes_5 rfl h (fun t2 h => ?_)
  refine j_bipush C dX11_twoBytes_6 rfl ?_
  refine j_ishl C dX11_twoBytes_8 ?_
  refine j_aload_n C dX11_twoBytes_9 rfl ?_
  refine j_getR C dX11_twoBytes_10 CF11 (by decide) fl_X11_7 rfl rfl h (fun t3 h => ?_)
  refine j_iload_n C dX11_twoBytes_13 rfl ?_
  refine j_iconst C dX11_twoBytes_14 rfl ?_
  refine j_iadd C dX11_twoBytes_15 ?_
  refine j_iald C dX11_twoBytes_16 rfl h (fun t4 h => ?_)
  refine j_ior C dX11_twoBytes_17 ?_
  exact j_ri C dX11_twoBytes_18 rfl (Option.some.inj h).symm rfl
theorem dX11_comesOn_0 : decode cX11_comesOn 0 = .ok (.iconst 2, 1) := by decide +kernel
theorem dX11_comesOn_1 : decode cX11_comesOn 1 = .ok (.aload_n 0, 1) := by decide +kernel
theorem dX11_comesOn_2 : decode cX11_comesOn 2 = .ok (.invokevirtual 438, 3) := by decide +kernel
theorem dX11_comesOn_5 : decode cX11_comesOn 5 = .ok (.iadd, 1) := by decide +kernel
theorem dX11_comesOn_6 : decode cX11_comesOn 6 = .ok (.istore_n 2, 1) := by decide +kernel
theorem dX11_comesOn_7 : decode cX11_comesOn 7 = .ok (.iload_n 2, 1) := by decide +kernel
theorem dX11_comesOn_8 : decode cX11_comesOn 8 = .ok (.aload_n 0, 1) := by decide +kernel
theorem dX11_comesOn_9 : decode cX11_comesOn 9 = .ok (.invokevirtual 524, 3) := by decide +kernel
theorem dX11_comesOn_12 : decode cX11_comesOn 12 = .ok (.iadd, 1) := by decide +kernel
theorem dX11_comesOn_13 : decode cX11_comesOn 13 = .ok (.istore_n 3, 1) := by decide +kernel
theorem dX11_comesOn_14 : decode cX11_comesOn 14 = .ok (.aload_n 0, 1) := by decide +kernel
theorem dX11_comesOn_15 : decode cX11_comesOn 15 = .ok (.invokevirtual 553, 3) := by decide +kernel
theorem dX11_comesOn_18 : decode cX11_comesOn 18 = .ok (.ifCond .eq 33, 3) := by decide +kernel
theorem dX11_comesOn_21 : decode cX11_comesOn 21 = .ok (.iload_n 1, 1) := by decide +kernel
theorem dX11_comesOn_22 : decode cX11_comesOn 22 = .ok (.iload_n 3, 1) := by decide +kernel
theorem dX11_comesOn_23 : decode cX11_comesOn 23 = .ok (.iconst 2, 1) := by decide +kernel
theorem dX11_comesOn_24 : decode cX11_comesOn 24 = .ok (.aload_n 0, 1) := by decide +kernel
theorem dX11_comesOn_25 : decode cX11_comesOn 25 = .ok (.getfield 75, 3) := by decide +kernel
theorem dX11_comesOn_28 : decode cX11_comesOn 28 = .ok (.aload_n 0, 1) := by decide +kernel
theorem dX11_comesOn_29 : decode cX11_comesOn 29 = .ok (.getfield 51, 3) := by decide +kernel
theorem dX11_comesOn_32 : decode cX11_comesOn 32 = .ok (.iaload, 1) := by decide +kernel
theorem dX11_comesOn_33 : decode cX11_comesOn 33 = .ok (.imul, 1) := by decide +kernel
theorem dX11_comesOn_34 : decode cX11_comesOn 34 = .ok (.iadd, 1) := by decide +kernel
theorem dX11_comesOn_35 : decode cX11_comesOn 35 = .ok (.iconst 1, 1) := by decide +kernel
theorem dX11_comesOn_36 : decode cX11_comesOn 36 = .ok (.iadd, 1) := by decide +kernel
theorem dX11_comesOn_37 : decode cX11_comesOn 37 = .ok (.if_icmp .ne 14, 3) := by decide +kernel
theorem dX11_comesOn_40 : decode cX11_comesOn 40 = .ok (.aload_n 0, 1) := by decide +kernel
theorem dX11_comesOn_41 : decode cX11_comesOn 41 = .ok (.iconst 0, 1) := by decide +kernel
theorem dX11_comesOn_42 : decode cX11_comesOn 42 = .ok (.invokevirtual 617, 3) := by decide +kernel
theorem dX11_comesOn_45 : decode cX11_comesOn 45 = .ok (.sipush 9999, 3) := by decide +kernel
theorem dX11_comesOn_48 : decode cX11_comesOn 48 = .ok (.if_icmp .le 5, 3) := by decide +kernel
theorem dX11_comesOn_51 : decode cX11_comesOn 51 = .ok (.iconst 0, 1) := by decide +kernel
theorem dX11_comesOn_52 : decode cX11_comesOn 52 = .ok (.ireturn, 1) := by decide +kernel
theorem dX11_comesOn_53 : decode cX11_comesOn 53 = .ok (.bipush 79, 2) := by decide +kernel
theorem dX11_comesOn_55 : decode cX11_comesOn 55 = .ok (.istore 4, 2) := by decide +kernel
theorem dX11_comesOn_57 : decode cX11_comesOn 57 = .ok (.iconst 0, 1) := by decide +kernel
theorem dX11_comesOn_58 : decode cX11_comesOn 58 = .ok (.istore 5, 2) := by decide +kernel
theorem dX11_comesOn_60 : decode cX11_comesOn 60 = .ok (.iload 5, 2) := by decide +kernel
theorem dX11_comesOn_62 : decode cX11_comesOn 62 = .ok (.iload_n 1, 1) := by decide +kernel
theorem dX11_comesOn_63 : decode cX11_comesOn 63 = .ok (.iconst 1, 1) := by decide +kernel
theorem dX11_comesOn_64 : decode cX11_comesOn 64 = .ok (.isub, 1) := by decide +kernel
theorem dX11_comesOn_65 : decode cX11_comesOn 65 = .ok (.if_icmp .ge 27, 3) := by decide +kernel
theorem dX11_comesOn_68 : decode cX11_comesOn 68 = .ok (.iconst 5, 1) := by decide +kernel
theorem dX11_comesOn_69 : decode cX11_comesOn 69 = .ok (.iload 4, 2) := by decide +kernel
theorem dX11_comesOn_71 : decode cX11_comesOn 71 = .ok (.imul, 1) := by decide +kernel
theorem dX11_comesOn_72 : decode cX11_comesOn 72 = .ok (.aload_n 0, 1) := by decide +kernel
theorem dX11_comesOn_73 : decode cX11_comesOn 73 = .ok (.getfield 7, 3) := by decide +kernel
theorem dX11_comesOn_76 : decode cX11_comesOn 76 = .ok (.iload 5, 2) := by decide +kernel
theorem dX11_comesOn_78 : decode cX11_comesOn 78 = .ok (.iaload, 1) := by decide +kernel
theorem dX11_comesOn_79 : decode cX11_comesOn 79 = .ok (.iadd, 1) := by decide +kernel
theorem dX11_comesOn_80 : decode cX11_comesOn 80 = .ok (.sipush 251, 3) := by decide +kernel
theorem dX11_comesOn_83 : decode cX11_comesOn 83 = .ok (.irem, 1) := by decide +kernel
theorem dX11_comesOn_84 : decode cX11_comesOn 84 = .ok (.istore 4, 2) := by decide +kernel
theorem dX11_comesOn_86 : decode cX11_comesOn 86 = .ok (.iinc 5 1, 3) := by decide +kernel
theorem dX11_comesOn_89 : decode cX11_comesOn 89 = .ok (.goto (-29), 3) := by decide +kernel
theorem dX11_comesOn_92 : decode cX11_comesOn 92 = .ok (.aload_n 0, 1) := by decide +kernel
theorem dX11_comesOn_93 : decode cX11_comesOn 93 = .ok (.getfield 7, 3) := by decide +kernel
theorem dX11_comesOn_96 : decode cX11_comesOn 96 = .ok (.iload_n 1, 1) := by decide +kernel
theorem dX11_comesOn_97 : decode cX11_comesOn 97 = .ok (.iconst 1, 1) := by decide +kernel
theorem dX11_comesOn_98 : decode cX11_comesOn 98 = .ok (.isub, 1) := by decide +kernel
theorem dX11_comesOn_99 : decode cX11_comesOn 99 = .ok (.iaload, 1) := by decide +kernel
theorem dX11_comesOn_100 : decode cX11_comesOn 100 = .ok (.iload 4, 2) := by decide +kernel
theorem dX11_comesOn_102 : decode cX11_comesOn 102 = .ok (.if_icmp .eq 5, 3) := by decide +kernel
theorem dX11_comesOn_105 : decode cX11_comesOn 105 = .ok (.iconst 0, 1) := by decide +kernel
theorem dX11_comesOn_106 : decode cX11_comesOn 106 = .ok (.ireturn, 1) := by decide +kernel
theorem dX11_comesOn_107 : decode cX11_comesOn 107 = .ok (.aload_n 0, 1) := by decide +kernel
theorem dX11_comesOn_108 : decode cX11_comesOn 108 = .ok (.iconst 1, 1) := by decide +kernel
theorem dX11_comesOn_109 : decode cX11_comesOn 109 = .ok (.iconst 0, 1) := by decide +kernel
theorem dX11_comesOn_110 : decode cX11_comesOn 110 = .ok (.invokevirtual 448, 3) := by decide +kernel
theorem dX11_comesOn_113 : decode cX11_comesOn 113 = .ok (.iconst 0, 1) := by decide +kernel
theorem dX11_comesOn_114 : decode cX11_comesOn 114 = .ok (.istore 5, 2) := by decide +kernel
theorem dX11_comesOn_116 : decode cX11_comesOn 116 = .ok (.iload 5, 2) := by decide +kernel
theorem dX11_comesOn_118 : decode cX11_comesOn 118 = .ok (.aload_n 0, 1) := by decide +kernel
theorem dX11_comesOn_119 : decode cX11_comesOn 119 = .ok (.invokevirtual 438, 3) := by decide +kernel
theorem dX11_comesOn_122 : decode cX11_comesOn 122 = .ok (.if_icmp .ge 43, 3) := by decide +kernel
theorem dX11_comesOn_125 : decode cX11_comesOn 125 = .ok (.aload_n 0, 1) := by decide +kernel
theorem dX11_comesOn_126 : decode cX11_comesOn 126 = .ok (.getfield 7, 3) := by decide +kernel
theorem dX11_comesOn_129 : decode cX11_comesOn 129 = .ok (.iconst 2, 1) := by decide +kernel
theorem dX11_comesOn_130 : decode cX11_comesOn 130 = .ok (.iload 5, 2) := by decide +kernel
theorem dX11_comesOn_132 : decode cX11_comesOn 132 = .ok (.iadd, 1) := by decide +kernel
theorem dX11_comesOn_133 : decode cX11_comesOn 133 = .ok (.iaload, 1) := by decide +kernel
theorem dX11_comesOn_134 : decode cX11_comesOn 134 = .ok (.iconst 1, 1) := by decide +kernel
theorem dX11_comesOn_135 : decode cX11_comesOn 135 = .ok (.if_icmp .le 5, 3) := by decide +kernel
theorem dX11_comesOn_138 : decode cX11_comesOn 138 = .ok (.iconst 0, 1) := by decide +kernel
theorem dX11_comesOn_139 : decode cX11_comesOn 139 = .ok (.ireturn, 1) := by decide +kernel
theorem dX11_comesOn_140 : decode cX11_comesOn 140 = .ok (.aload_n 0, 1) := by decide +kernel
theorem dX11_comesOn_141 : decode cX11_comesOn 141 = .ok (.getfield 167, 3) := by decide +kernel
theorem dX11_comesOn_144 : decode cX11_comesOn 144 = .ok (.bipush 42, 2) := by decide +kernel
theorem dX11_comesOn_146 : decode cX11_comesOn 146 = .ok (.iload 5, 2) := by decide +kernel
theorem dX11_comesOn_148 : decode cX11_comesOn 148 = .ok (.iadd, 1) := by decide +kernel
theorem dX11_comesOn_149 : decode cX11_comesOn 149 = .ok (.aload_n 0, 1) := by decide +kernel
theorem dX11_comesOn_150 : decode cX11_comesOn 150 = .ok (.getfield 7, 3) := by decide +kernel
theorem dX11_comesOn_153 : decode cX11_comesOn 153 = .ok (.iconst 2, 1) := by decide +kernel
theorem dX11_comesOn_154 : decode cX11_comesOn 154 = .ok (.iload 5, 2) := by decide +kernel
theorem dX11_comesOn_156 : decode cX11_comesOn 156 = .ok (.iadd, 1) := by decide +kernel
theorem dX11_comesOn_157 : decode cX11_comesOn 157 = .ok (.iaload, 1) := by decide +kernel
theorem dX11_comesOn_158 : decode cX11_comesOn 158 = .ok (.iastore, 1) := by decide +kernel
theorem dX11_comesOn_159 : decode cX11_comesOn 159 = .ok (.iinc 5 1, 3) := by decide +kernel
theorem dX11_comesOn_162 : decode cX11_comesOn 162 = .ok (.goto (-46), 3) := by decide +kernel
theorem dX11_comesOn_165 : decode cX11_comesOn 165 = .ok (.iconst 0, 1) := by decide +kernel
theorem dX11_comesOn_166 : decode cX11_comesOn 166 = .ok (.istore 5, 2) := by decide +kernel
theorem dX11_comesOn_168 : decode cX11_comesOn 168 = .ok (.iload 5, 2) := by decide +kernel
theorem dX11_comesOn_170 : decode cX11_comesOn 170 = .ok (.aload_n 0, 1) := by decide +kernel
theorem dX11_comesOn_171 : decode cX11_comesOn 171 = .ok (.invokevirtual 524, 3) := by decide +kernel
theorem dX11_comesOn_174 : decode cX11_comesOn 174 = .ok (.if_icmp .ge 32, 3) := by decide +kernel
theorem dX11_comesOn_177 : decode cX11_comesOn 177 = .ok (.aload_n 0, 1) := by decide +kernel
theorem dX11_comesOn_178 : decode cX11_comesOn 178 = .ok (.getfield 170, 3) := by decide +kernel
theorem dX11_comesOn_181 : decode cX11_comesOn 181 = .ok (.bipush 10, 2) := by decide +kernel
theorem dX11_comesOn_183 : decode cX11_comesOn 183 = .ok (.aload_n 0, 1) := by decide +kernel
theorem dX11_comesOn_184 : decode cX11_comesOn 184 = .ok (.iload 5, 2) := by decide +kernel
theorem dX11_comesOn_186 : decode cX11_comesOn 186 = .ok (.invokevirtual 527, 3) := by decide +kernel
theorem dX11_comesOn_189 : decode cX11_comesOn 189 = .ok (.iadd, 1) := by decide +kernel
theorem dX11_comesOn_190 : decode cX11_comesOn 190 = .ok (.aload_n 0, 1) := by decide +kernel
theorem dX11_comesOn_191 : decode cX11_comesOn 191 = .ok (.getfield 7, 3) := by decide +kernel
theorem dX11_comesOn_194 : decode cX11_comesOn 194 = .ok (.iload_n 2, 1) := by decide +kernel
theorem dX11_comesOn_195 : decode cX11_comesOn 195 = .ok (.iload 5, 2) := by decide +kernel
theorem dX11_comesOn_197 : decode cX11_comesOn 197 = .ok (.iadd, 1) := by decide +kernel
theorem dX11_comesOn_198 : decode cX11_comesOn 198 = .ok (.iaload, 1) := by decide +kernel
theorem dX11_comesOn_199 : decode cX11_comesOn 199 = .ok (.iastore, 1) := by decide +kernel
theorem dX11_comesOn_200 : decode cX11_comesOn 200 = .ok (.iinc 5 1, 3) := by decide +kernel
theorem dX11_comesOn_203 : decode cX11_comesOn 203 = .ok (.goto (-35), 3) := by decide +kernel
theorem dX11_comesOn_206 : decode cX11_comesOn 206 = .ok (.iconst 0, 1) := by decide +kernel
theorem dX11_comesOn_207 : decode cX11_comesOn 207 = .ok (.istore 5, 2) := by decide +kernel
theorem dX11_comesOn_209 : decode cX11_comesOn 209 = .ok (.iload 5, 2) := by decide +kernel
theorem dX11_comesOn_211 : decode cX11_comesOn 211 = .ok (.aload_n 0, 1) := by decide +kernel
theorem dX11_comesOn_212 : decode cX11_comesOn 212 = .ok (.getfield 75, 3) := by decide +kernel
theorem dX11_comesOn_215 : decode cX11_comesOn 215 = .ok (.aload_n 0, 1) := by decide +kernel
theorem dX11_comesOn_216 : decode cX11_comesOn 216 = .ok (.getfield 51, 3) := by decide +kernel
theorem dX11_comesOn_219 : decode cX11_comesOn 219 = .ok (.iaload, 1) := by decide +kernel
theorem dX11_comesOn_220 : decode cX11_comesOn 220 = .ok (.if_icmp .ge 45, 3) := by decide +kernel
theorem dX11_comesOn_223 : decode cX11_comesOn 223 = .ok (.aload_n 0, 1) := by decide +kernel
theorem dX11_comesOn_224 : decode cX11_comesOn 224 = .ok (.getfield 173, 3) := by decide +kernel
theorem dX11_comesOn_227 : decode cX11_comesOn 227 = .ok (.iconst 5, 1) := by decide +kernel
theorem dX11_comesOn_228 : decode cX11_comesOn 228 = .ok (.iload 5, 2) := by decide +kernel
theorem dX11_comesOn_230 : decode cX11_comesOn 230 = .ok (.iadd, 1) := by decide +kernel
theorem dX11_comesOn_231 : decode cX11_comesOn 231 = .ok (.aload_n 0, 1) := by decide +kernel
theorem dX11_comesOn_232 : decode cX11_comesOn 232 = .ok (.iload_n 3, 1) := by decide +kernel
theorem dX11_comesOn_233 : decode cX11_comesOn 233 = .ok (.iconst 2, 1) := by decide +kernel
theorem dX11_comesOn_234 : decode cX11_comesOn 234 = .ok (.iload 5, 2) := by decide +kernel
theorem dX11_comesOn_236 : decode cX11_comesOn 236 = .ok (.imul, 1) := by decide +kernel
theorem dX11_comesOn_237 : decode cX11_comesOn 237 = .ok (.iadd, 1) := by decide +kernel
theorem dX11_comesOn_238 : decode cX11_comesOn 238 = .ok (.invokevirtual 617, 3) := by decide +kernel
theorem dX11_comesOn_241 : decode cX11_comesOn 241 = .ok (.iastore, 1) := by decide +kernel
theorem dX11_comesOn_242 : decode cX11_comesOn 242 = .ok (.aload_n 0, 1) := by decide +kernel
theorem dX11_comesOn_243 : decode cX11_comesOn 243 = .ok (.getfield 173, 3) := by decide +kernel
theorem dX11_comesOn_246 : decode cX11_comesOn 246 = .ok (.iconst 5, 1) := by decide +kernel
theorem dX11_comesOn_247 : decode cX11_comesOn 247 = .ok (.iload 5, 2) := by decide +kernel
theorem dX11_comesOn_249 : decode cX11_comesOn 249 = .ok (.iadd, 1) := by decide +kernel
theorem dX11_comesOn_250 : decode cX11_comesOn 250 = .ok (.iaload, 1) := by decide +kernel
theorem dX11_comesOn_251 : decode cX11_comesOn 251 = .ok (.sipush 9999, 3) := by decide +kernel
theorem dX11_comesOn_254 : decode cX11_comesOn 254 = .ok (.if_icmp .le 5, 3) := by decide +kernel
theorem dX11_comesOn_257 : decode cX11_comesOn 257 = .ok (.iconst 0, 1) := by decide +kernel
theorem dX11_comesOn_258 : decode cX11_comesOn 258 = .ok (.ireturn, 1) := by decide +kernel
theorem dX11_comesOn_259 : decode cX11_comesOn 259 = .ok (.iinc 5 1, 3) := by decide +kernel
theorem dX11_comesOn_262 : decode cX11_comesOn 262 = .ok (.goto (-53), 3) := by decide +kernel
theorem dX11_comesOn_265 : decode cX11_comesOn 265 = .ok (.aload_n 0, 1) := by decide +kernel
theorem dX11_comesOn_266 : decode cX11_comesOn 266 = .ok (.getfield 164, 3) := by decide +kernel
theorem dX11_comesOn_269 : decode cX11_comesOn 269 = .ok (.iconst 1, 1) := by decide +kernel
theorem dX11_comesOn_270 : decode cX11_comesOn 270 = .ok (.aload_n 0, 1) := by decide +kernel
theorem dX11_comesOn_271 : decode cX11_comesOn 271 = .ok (.iconst 0, 1) := by decide +kernel
theorem dX11_comesOn_272 : decode cX11_comesOn 272 = .ok (.invokevirtual 617, 3) := by decide +kernel
theorem dX11_comesOn_275 : decode cX11_comesOn 275 = .ok (.iastore, 1) := by decide +kernel
theorem dX11_comesOn_276 : decode cX11_comesOn 276 = .ok (.aload_n 0, 1) := by decide +kernel
theorem dX11_comesOn_277 : decode cX11_comesOn 277 = .ok (.invokevirtual 620, 3) := by decide +kernel
theorem dX11_comesOn_280 : decode cX11_comesOn 280 = .ok (.ireturn, 1) := by decide +kernel
set_option maxRecDepth 100000 in
set_option maxHeartbeats 4000000 in
theorem X11_comesOn_L60_bok {g : Gm} {w : Wd} (C : Cx g w RX11 cX11_comesOn 6 (some .boolean)) {lv : Nat} (hlv : 3 < lv) {N : Nat} {k92 : Nat → Int → Int → Int → Int → Mem → Option (Int × Mem)} {r60 : Nat → Int → Int → Int → Int → Int → Mem → Option (Int × Mem)} {l0 : Nat} {l1 : Int} {l2 : Int} {l3 : Int} {l4 : Int} {l5 : Int} {m : Mem} {out : (Int × Mem)} (hk92 : ∀ l0 l1 l2 l3 l4 m, k92 l0 l1 l2 l3 l4 m = some out → Jd g w 6 (rmL lv 0 0) (Qm g w (some (vI out.1)) out.2) 92 [some (vR l0), some (vI l1), some (vI l2), some (vI l3), some (vI l4), none] [] 312 m 0 0) (hr60 : ∀ l0 l1 l2 l3 l4 l5 m, r60 l0 l1 l2 l3 l4 l5 m = some out → Jd g w 6 (rmL lv 0 0) (Qm g w (some (vI out.1)) out.2) 60 [some (vR l0), some (vI l1), some (vI l2), some (vI l3), some (vI l4), some (vI l5)] [] 312 m 0 0) (h : X11_comesOn_L60_b N k92 r60 l0 l1 l2 l3 l4 l5 m = some out) : Jd g w 6 (rmL lv 0 0) (Qm g w (some (vI out.1)) out.2) 60 [some (vR l0), some (vI l1), some (vI l2), some (vI l3), some (vI l4), some (vI l5)] [] 312 m 0 0 := by
  unfold X11_comesOn_L60_b at h
  refine j_iload C dX11_comesOn_60 rfl ?_
  refine j_iload_n C dX11_comesOn_62 rfl ?_
  refine j_iconst C dX11_comesOn_63 rfl ?_
  refine j_isub C dX11_comesOn_64 ?_
  refine j_icmp_ge C 92 dX11_comesOn_65 rfl h (fun c12 h => ?_) (fun c12 h => ?_)
  · refine j_mask [true, true, true, true, true, false] (ls' := [some (vR _), some (vI _), some (vI _), some (vI _), some (vI _), none]) rfl ?_
    exact hk92 _ _ _ _ _ _ h
  · refine j_iconst C dX11_comesOn_68 rfl ?_
    refine j_iload C dX11_comesOn_69 rfl ?_
    refine j_imul C dX11_comesOn_71 ?_
    refine j_aload_n C dX11_comesOn_72 rfl ?_
    refine j_getR C dX11_comesOn_73 CF11 (by decide) fl_X11_7 rfl rfl h (fun t10 h => ?_)
    refine j_iload C dX11_comesOn_76 rfl ?_
    refine j_iald C dX11_comesOn_78 rfl h (fun t11 h => ?_)
    refine j_iadd C dX11_comesOn_79 ?_
    refine j_sipush C dX11_comesOn_80 rfl ?_
    refine j_irem C dX11_comesOn_83 (by decide) ?_
    refine j_istore (ls' := [some (vR _), some (vI _), some (vI _), some (vI _), some (vI _), some (vI _)]) C dX11_comesOn_84 (by decide) rfl ?_
    refine j_iinc (ls' := [some (vR _), some (vI _), some (vI _), some (vI _), some (vI _), some (vI _)]) C dX11_comesOn_86 rfl (by decide) rfl ?_
    refine j_goto C 60 dX11_comesOn_89 rfl ?_
    exact hr60 _ _ _ _ _ _ _ h
set_option maxRecDepth 100000 in
set_option maxHeartbeats 4000000 in
theorem X11_comesOn_L60_ok {g : Gm} {w : Wd} (C : Cx g w RX11 cX11_comesOn 6 (some .boolean)) {lv : Nat} (hlv : 3 < lv) {N : Nat} {k92 : Nat → Int → Int → Int → Int → Mem → Option (Int × Mem)} {out : (Int × Mem)} (hk92 : ∀ l0 l1 l2 l3 l4 m, k92 l0 l1 l2 l3 l4 m = some out → Jd g w 6 (rmL lv 0 0) (Qm g w (some (vI out.1)) out.2) 92 [some (vR l0), some (vI l1), some (vI l2), some (vI l3), some (vI l4), none] [] 312 m 0 0) (f : Nat) : ∀ {l0 : Nat} {l1 : Int} {l2 : Int} {l3 : Int} {l4 : Int} {l5 : Int} {m : Mem}, X11_comesOn_L60 N k92 f l0 l1 l2 l3 l4 l5 m = some out → Jd g w 6 (rmL lv 0 0) (Qm g w (some (vI out.1)) out.2) 60 [some (vR l0), some (vI l1), some (vI l2), some (vI l3), some (vI l4), some (vI l5)] [] 312 m 0 0 := by
  induction f with
  | zero => intro l0 l1 l2 l3 l4 l5 m h; exact none_ne (α := (Int × Mem)) h
  | succ f ih => intro l0 l1 l2 l3 l4 l5 m h; exact X11_comesOn_L60_bok C hlv hk92 (fun l0 l1 l2 l3 l4 l5 m h => ih h) h
set_option maxRecDepth 100000 in
set_option maxHeartbeats 4000000 in
theorem X11_comesOn_L116_bok {g : Gm} {w : Wd} (C : Cx g w RX11 cX11_comesOn 6 (some .boolean)) {lv : Nat} (hlv : 3 < lv) {N : Nat} {k165 : Nat → Int → Int → Mem → Option (Int × Mem)} {r116 : Nat → Int → Int → Int → Mem → Option (Int × Mem)} {l0 : Nat} {l2 : Int} {l3 : Int} {l5 : Int} {m : Mem} {out : (Int × Mem)} (hk165 : ∀ l0 l2 l3 m, k165 l0 l2 l3 m = some out → Jd g w 6 (rmL lv 0 0) (Qm g w (some (vI out.1)) out.2) 165 [some (vR l0), none, some (vI l2), some (vI l3), none, none] [] 312 m 0 0) (hr116 : ∀ l0 l2 l3 l5 m, r116 l0 l2 l3 l5 m = some out → Jd g w 6 (rmL lv 0 0) (Qm g w (some (vI out.1)) out.2) 116 [some (vR l0), none, some (vI l2), some (vI l3), none, some (vI l5)] [] 312 m 0 0) (h : X11_comesOn_L116_b N k165 r116 l0 l2 l3 l5 m = some out) : Jd g w 6 (rmL lv 0 0) (Qm g w (some (vI out.1)) out.2) 116 [some (vR l0), none, some (vI l2), some (vI l3), none, some (vI l5)] [] 312 m 0 0 := by
  unfold X11_comesOn_L116_b at h
  refine j_iload C dX11_comesOn_116 rfl ?_
  refine j_aload_n C dX11_comesOn_118 rfl ?_
  obtain ⟨p22, ep22, h⟩ := bind_some h
  have qp22 := X11_cells_ct ep22
  refine j_cVI C dX11_comesOn_119 vl_X11_438 CF11 rfl qp22.1 qp22.2 (by omega) rfl rfl (Nat.le_of_ble_eq_true rfl) ?_
  refine j_icmp_ge C 165 dX11_comesOn_122 rfl h (fun c31 h => ?_) (fun c31 h => ?_)
  · refine j_mask [true, false, true, true, false, false] (ls' := [some (vR _), none, some (vI _), some (vI _), none, none]) rfl ?_
    exact hk165 _ _ _ _ h
  · refine j_aload_n C dX11_comesOn_125 rfl ?_
    refine j_getR C dX11_comesOn_126 CF11 (by decide) fl_X11_7 rfl rfl h (fun t23 h => ?_)
    refine j_iconst C dX11_comesOn_129 rfl ?_
    refine j_iload C dX11_comesOn_130 rfl ?_
    refine j_iadd C dX11_comesOn_132 ?_
    refine j_iald C dX11_comesOn_133 rfl h (fun t24 h => ?_)
    refine j_iconst C dX11_comesOn_134 rfl ?_
    refine j_icmp_le C 140 dX11_comesOn_135 rfl h (fun c30 h => ?_) (fun c30 h => ?_)
    · refine j_aload_n C dX11_comesOn_140 rfl ?_
      refine j_getR C dX11_comesOn_141 CF11 (by decide) fl_X11_167 rfl rfl h (fun t25 h => ?_)
      refine j_bipush C dX11_comesOn_144 rfl ?_
      refine j_iload C dX11_comesOn_146 rfl ?_
      refine j_iadd C dX11_comesOn_148 ?_
      refine j_aload_n C dX11_comesOn_149 rfl ?_
      refine j_getR C dX11_comesOn_150 CF11 (by decide) fl_X11_7 rfl rfl h (fun t26 h => ?_)
      refine j_iconst C dX11_comesOn_153 rfl ?_
      refine j_iload C dX11_comesOn_154 rfl ?_
      refine j_iadd C dX11_comesOn_156 ?_
      refine j_iald C dX11_comesOn_157 rfl h (fun t27 h => ?_)
      refine j_iast C dX11_comesOn_158 rfl h (fun m28 h => ?_)
      refine j_iinc (ls' := [some (vR _), none, some (vI _), some (vI _), none, some (vI _)]) C dX11_comesOn_159 rfl (by decide) rfl ?_
      refine j_goto C 116 dX11_comesOn_162 rfl ?_
      exact hr116 _ _ _ _ _ h
    · refine j_iconst C dX11_comesOn_138 rfl ?_
      obtain ⟨r29, er29, h⟩ := bind_some h
      have e := Option.some.inj h
      subst e
      exact j_rz C dX11_comesOn_139 rfl (retZ_some er29) rfl
set_option maxRecDepth 100000 in
set_option maxHeartbeats 4000000 in
theorem X11_comesOn_L116_ok {g : Gm} {w : Wd} (C : Cx g w RX11 cX11_comesOn 6 (some .boolean)) {lv : Nat} (hlv : 3 < lv) {N : Nat} {k165 : Nat → Int → Int → Mem → Option (Int × Mem)} {out : (Int × Mem)} (hk165 : ∀ l0 l2 l3 m, k165 l0 l2 l3 m = some out → Jd g w 6 (rmL lv 0 0) (Qm g w (some (vI out.1)) out.2) 165 [some (vR l0), none, some (vI l2), some (vI l3), none, none] [] 312 m 0 0) (f : Nat) : ∀ {l0 : Nat} {l2 : Int} {l3 : Int} {l5 : Int} {m : Mem}, X11_comesOn_L116 N k165 f l0 l2 l3 l5 m = some out → Jd g w 6 (rmL lv 0 0) (Qm g w (some (vI out.1)) out.2) 116 [some (vR l0), none, some (vI l2), some (vI l3), none, some (vI l5)] [] 312 m 0 0 := by
  induction f with
  | zero => intro l0 l2 l3 l5 m h; exact none_ne (α := (Int × Mem)) h
  | succ f ih => intro l0 l2 l3 l5 m h; exact X11_comesOn_L116_bok C hlv hk165 (fun l0 l2 l3 l5 m h => ih h) h
set_option maxRecDepth 100000 in
set_option maxHeartbeats 4000000 in
theorem X11_comesOn_L168_bok {g : Gm} {w : Wd} (C : Cx g w RX11 cX11_comesOn 6 (some .boolean)) {lv : Nat} (hlv : 3 < lv) {N : Nat} {k206 : Nat → Int → Mem → Option (Int × Mem)} {r168 : Nat → Int → Int → Int → Mem → Option (Int × Mem)} {l0 : Nat} {l2 : Int} {l3 : Int} {l5 : Int} {m : Mem} {out : (Int × Mem)} (hk206 : ∀ l0 l3 m, k206 l0 l3 m = some out → Jd g w 6 (rmL lv 0 0) (Qm g w (some (vI out.1)) out.2) 206 [some (vR l0), none, none, some (vI l3), none, none] [] 312 m 0 0) (hr168 : ∀ l0 l2 l3 l5 m, r168 l0 l2 l3 l5 m = some out → Jd g w 6 (rmL lv 0 0) (Qm g w (some (vI out.1)) out.2) 168 [some (vR l0), none, some (vI l2), some (vI l3), none, some (vI l5)] [] 312 m 0 0) (h : X11_comesOn_L168_b N k206 r168 l0 l2 l3 l5 m = some out) : Jd g w 6 (rmL lv 0 0) (Qm g w (some (vI out.1)) out.2) 168 [some (vR l0), none, some (vI l2), some (vI l3), none, some (vI l5)] [] 312 m 0 0 := by
  unfold X11_comesOn_L168_b at h
  refine j_iload C dX11_comesOn_168 rfl ?_
  refine j_aload_n C dX11_comesOn_170 rfl ?_
  obtain ⟨p36, ep36, h⟩ := bind_some h
  have qp36 := X11_cloths_ct ep36
  refine j_cVI C dX11_comesOn_171 vl_X11_524 CF11 rfl qp36.1 qp36.2 (by omega) rfl rfl (Nat.le_of_ble_eq_true rfl) ?_
  refine j_icmp_ge C 206 dX11_comesOn_174 rfl h (fun c42 h => ?_) (fun c42 h => ?_)
  · refine j_mask [true, false, false, true, false, false] (ls' := [some (vR _), none, none, some (vI _), none, none]) rfl ?_
    exact hk206 _ _ _ h
  · refine j_aload_n C dX11_comesOn_177 rfl ?_
    refine j_getR C dX11_comesOn_178 CF11 (by decide) fl_X11_170 rfl rfl h (fun t37 h => ?_)
    refine j_bipush C dX11_comesOn_181 rfl ?_
    refine j_aload_n C dX11_comesOn_183 rfl ?_
    refine j_iload C dX11_comesOn_184 rfl ?_
    obtain ⟨p38, ep38, h⟩ := bind_some h
    have qp38 := X11_cloth_ct ep38
    refine j_cVI C dX11_comesOn_186 vl_X11_527 CF11 rfl qp38.1 qp38.2 (by omega) rfl rfl (Nat.le_of_ble_eq_true rfl) ?_
    refine j_iadd C dX11_comesOn_189 ?_
    refine j_aload_n C dX11_comesOn_190 rfl ?_
    refine j_getR C dX11_comesOn_191 CF11 (by decide) fl_X11_7 rfl rfl h (fun t39 h => ?_)
    refine j_iload_n C dX11_comesOn_194 rfl ?_
    refine j_iload C dX11_comesOn_195 rfl ?_
    refine j_iadd C dX11_comesOn_197 ?_
    refine j_iald C dX11_comesOn_198 rfl h (fun t40 h => ?_)
    refine j_iast C dX11_comesOn_199 rfl h (fun m41 h => ?_)
    refine j_iinc (ls' := [some (vR _), none, some (vI _), some (vI _), none, some (vI _)]) C dX11_comesOn_200 rfl (by decide) rfl ?_
    refine j_goto C 168 dX11_comesOn_203 rfl ?_
    exact hr168 _ _ _ _ _ h
set_option maxRecDepth 100000 in
set_option maxHeartbeats 4000000 in
theorem X11_comesOn_L168_ok {g : Gm} {w : Wd} (C : Cx g w RX11 cX11_comesOn 6 (some .boolean)) {lv : Nat} (hlv : 3 < lv) {N : Nat} {k206 : Nat → Int → Mem → Option (Int × Mem)} {out : (Int × Mem)} (hk206 : ∀ l0 l3 m, k206 l0 l3 m = some out → Jd g w 6 (rmL lv 0 0) (Qm g w (some (vI out.1)) out.2) 206 [some (vR l0), none, none, some (vI l3), none, none] [] 312 m 0 0) (f : Nat) : ∀ {l0 : Nat} {l2 : Int} {l3 : Int} {l5 : Int} {m : Mem}, X11_comesOn_L168 N k206 f l0 l2 l3 l5 m = some out → Jd g w 6 (rmL lv 0 0) (Qm g w (some (vI out.1)) out.2) 168 [some (vR l0), none, some (vI l2), some (vI l3), none, some (vI l5)] [] 312 m 0 0 := by
  induction f with
  | zero => intro l0 l2 l3 l5 m h; exact none_ne (α := (Int × Mem)) h
  | succ f ih => intro l0 l2 l3 l5 m h; exact X11_comesOn_L168_bok C hlv hk206 (fun l0 l2 l3 l5 m h => ih h) h
set_option maxRecDepth 100000 in
set_option maxHeartbeats 4000000 in
theorem X11_comesOn_L209_bok {g : Gm} {w : Wd} (C : Cx g w RX11 cX11_comesOn 6 (some .boolean)) {lv : Nat} (hlv : 3 < lv) {N : Nat} {k265 : Nat → Mem → Option (Int × Mem)} {r209 : Nat → Int → Int → Mem → Option (Int × Mem)} {l0 : Nat} {l3 : Int} {l5 : Int} {m : Mem} {out : (Int × Mem)} (hk265 : ∀ l0 m, k265 l0 m = some out → Jd g w 6 (rmL lv 0 0) (Qm g w (some (vI out.1)) out.2) 265 [some (vR l0), none, none, none, none, none] [] 312 m 0 0) (hr209 : ∀ l0 l3 l5 m, r209 l0 l3 l5 m = some out → Jd g w 6 (rmL lv 0 0) (Qm g w (some (vI out.1)) out.2) 209 [some (vR l0), none, none, some (vI l3), none, some (vI l5)] [] 312 m 0 0) (h : X11_comesOn_L209_b N k265 r209 l0 l3 l5 m = some out) : Jd g w 6 (rmL lv 0 0) (Qm g w (some (vI out.1)) out.2) 209 [some (vR l0), none, none, some (vI l3), none, some (vI l5)] [] 312 m 0 0 := by
  unfold X11_comesOn_L209_b at h
  refine j_iload C dX11_comesOn_209 rfl ?_
  refine j_aload_n C dX11_comesOn_211 rfl ?_
  refine j_getR C dX11_comesOn_212 CF11 (by decide) fl_X11_75 rfl rfl h (fun t46 h => ?_)
  refine j_aload_n C dX11_comesOn_215 rfl ?_
  refine j_getI C dX11_comesOn_216 CF11 (by decide) fl_X11_51 rfl rfl h (fun t47 h => ?_)
  refine j_iald C dX11_comesOn_219 rfl h (fun t48 h => ?_)
  refine j_icmp_ge C 265 dX11_comesOn_220 rfl h (fun c56 h => ?_) (fun c56 h => ?_)
  · refine j_mask [true, false, false, false, false, false] (ls' := [some (vR _), none, none, none, none, none]) rfl ?_
    exact hk265 _ _ h
  · refine j_aload_n C dX11_comesOn_223 rfl ?_
    refine j_getR C dX11_comesOn_224 CF11 (by decide) fl_X11_173 rfl rfl h (fun t49 h => ?_)
    refine j_iconst C dX11_comesOn_227 rfl ?_
    refine j_iload C dX11_comesOn_228 rfl ?_
    refine j_iadd C dX11_comesOn_230 ?_
    refine j_aload_n C dX11_comesOn_231 rfl ?_
    refine j_iload_n C dX11_comesOn_232 rfl ?_
    refine j_iconst C dX11_comesOn_233 rfl ?_
    refine j_iload C dX11_comesOn_234 rfl ?_
    refine j_imul C dX11_comesOn_236 ?_
    refine j_iadd C dX11_comesOn_237 ?_
    obtain ⟨p50, ep50, h⟩ := bind_some h
    have qp50 := X11_twoBytes_ct ep50
    refine j_cVI C dX11_comesOn_238 vl_X11_617 CF11 rfl qp50.1 qp50.2 (by omega) rfl rfl (Nat.le_of_ble_eq_true rfl) ?_
    refine j_iast C dX11_comesOn_241 rfl h (fun m51 h => ?_)
    refine j_aload_n C dX11_comesOn_242 rfl ?_
    refine j_getR C dX11_comesOn_243 CF11 (by decide) fl_X11_173 rfl rfl h (fun t52 h => ?_)
    refine j_iconst C dX11_comesOn_246 rfl ?_
    refine j_iload C dX11_comesOn_247 rfl ?_
    refine j_iadd C dX11_comesOn_249 ?_
    refine j_iald C dX11_comesOn_250 rfl h (fun t53 h => ?_)
    refine j_sipush C dX11_comesOn_251 rfl ?_
    refine j_icmp_le C 259 dX11_comesOn_254 rfl h (fun c55 h => ?_) (fun c55 h => ?_)
    · refine j_iinc (ls' := [some (vR _), none, none, some (vI _), none, some (vI _)]) C dX11_comesOn_259 rfl (by decide) rfl ?_
      refine j_goto C 209 dX11_comesOn_262 rfl ?_
      exact hr209 _ _ _ _ h
    · refine j_iconst C dX11_comesOn_257 rfl ?_
      obtain ⟨r54, er54, h⟩ := bind_some h
      have e := Option.some.inj h
      subst e
      exact j_rz C dX11_comesOn_258 rfl (retZ_some er54) rfl
set_option maxRecDepth 100000 in
set_option maxHeartbeats 4000000 in
theorem X11_comesOn_L209_ok {g : Gm} {w : Wd} (C : Cx g w RX11 cX11_comesOn 6 (some .boolean)) {lv : Nat} (hlv : 3 < lv) {N : Nat} {k265 : Nat → Mem → Option (Int × Mem)} {out : (Int × Mem)} (hk265 : ∀ l0 m, k265 l0 m = some out → Jd g w 6 (rmL lv 0 0) (Qm g w (some (vI out.1)) out.2) 265 [some (vR l0), none, none, none, none, none] [] 312 m 0 0) (f : Nat) : ∀ {l0 : Nat} {l3 : Int} {l5 : Int} {m : Mem}, X11_comesOn_L209 N k265 f l0 l3 l5 m = some out → Jd g w 6 (rmL lv 0 0) (Qm g w (some (vI out.1)) out.2) 209 [some (vR l0), none, none, some (vI l3), none, some (vI l5)] [] 312 m 0 0 := by
  induction f with
  | zero => intro l0 l3 l5 m h; exact none_ne (α := (Int × Mem)) h
  | succ f ih => intro l0 l3 l5 m h; exact X11_comesOn_L209_bok C hlv hk265 (fun l0 l3 l5 m h => ih h) h
set_option maxRecDepth 100000 in
set_option maxHeartbeats 4000000 in
theorem X11_comesOn_ct {N : Nat} {l0 : Nat} {l1 : Int} {m : Mem} {out : (Int × Mem)} (h : X11_comesOn N l0 l1 m = some out) : shK l0 = 11 + 10 ∧ CT yX11_comesOn cX11_comesOn 6 (some .boolean) 4 0 0 [vR l0, vI l1] 312 m (some (vI out.1)) 312 out.2 := by
  unfold X11_comesOn at h
  obtain ⟨hK, h⟩ := ite_some h
  have hlv : 3 < 4 := by decide
  refine ⟨hK, CT.of (by decide +kernel) rfl (Nat.le_of_ble_eq_true rfl) (ls := [some (vR l0), some (vI l1), none, none, none, none]) rfl fun g w C _ => ?_⟩
  refine j_iconst C dX11_comesOn_0 rfl ?_
  refine j_aload_n C dX11_comesOn_1 rfl ?_
  obtain ⟨p1, ep1, h⟩ := bind_some h
  have qp1 := X11_cells_ct ep1
  refine j_cVI C dX11_comesOn_2 vl_X11_438 CF11 rfl qp1.1 qp1.2 (by omega) rfl rfl (Nat.le_of_ble_eq_true rfl) ?_
  refine j_iadd C dX11_comesOn_5 ?_
  refine j_istore_n (ls' := [some (vR _), some (vI _), some (vI _), none, none, none]) C dX11_comesOn_6 (by decide) rfl ?_
  refine j_iload_n C dX11_comesOn_7 rfl ?_
  refine j_aload_n C dX11_comesOn_8 rfl ?_
  obtain ⟨p2, ep2, h⟩ := bind_some h
  have qp2 := X11_cloths_ct ep2
  refine j_cVI C dX11_comesOn_9 vl_X11_524 CF11 rfl qp2.1 qp2.2 (by omega) rfl rfl (Nat.le_of_ble_eq_true rfl) ?_
  refine j_iadd C dX11_comesOn_12 ?_
  refine j_istore_n (ls' := [some (vR _), some (vI _), some (vI _), some (vI _), none, none]) C dX11_comesOn_13 (by decide) rfl ?_
  refine j_aload_n C dX11_comesOn_14 rfl ?_
  obtain ⟨p3, ep3, h⟩ := bind_some h
  have qp3 := X11_isIsland_ct ep3
  refine j_cVI C dX11_comesOn_15 vl_X11_553 CF11 rfl qp3.1 qp3.2 (by omega) rfl rfl (Nat.le_of_ble_eq_true rfl) ?_
  refine j_if_eq C 51 dX11_comesOn_18 rfl h (fun c69 h => ?_) (fun c69 h => ?_)
  · refine j_iconst C dX11_comesOn_51 rfl ?_
    obtain ⟨r4, er4, h⟩ := bind_some h
    have e := Option.some.inj h
    subst e
    exact j_rz C dX11_comesOn_52 rfl (retZ_some er4) rfl
  · refine j_iload_n C dX11_comesOn_21 rfl ?_
    refine j_iload_n C dX11_comesOn_22 rfl ?_
    refine j_iconst C dX11_comesOn_23 rfl ?_
    refine j_aload_n C dX11_comesOn_24 rfl ?_
    refine j_getR C dX11_comesOn_25 CF11 (by decide) fl_X11_75 rfl rfl h (fun t5 h => ?_)
    refine j_aload_n C dX11_comesOn_28 rfl ?_
    refine j_getI C dX11_comesOn_29 CF11 (by decide) fl_X11_51 rfl rfl h (fun t6 h => ?_)
    refine j_iald C dX11_comesOn_32 rfl h (fun t7 h => ?_)
    refine j_imul C dX11_comesOn_33 ?_
    refine j_iadd C dX11_comesOn_34 ?_
    refine j_iconst C dX11_comesOn_35 rfl ?_
    refine j_iadd C dX11_comesOn_36 ?_
    refine j_icmp_ne C 51 dX11_comesOn_37 rfl h (fun c68 h => ?_) (fun c68 h => ?_)
    · refine j_iconst C dX11_comesOn_51 rfl ?_
      obtain ⟨r8, er8, h⟩ := bind_some h
      have e := Option.some.inj h
      subst e
      exact j_rz C dX11_comesOn_52 rfl (retZ_some er8) rfl
    · refine j_aload_n C dX11_comesOn_40 rfl ?_
      refine j_iconst C dX11_comesOn_41 rfl ?_
      obtain ⟨p9, ep9, h⟩ := bind_some h
      have qp9 := X11_twoBytes_ct ep9
      refine j_cVI C dX11_comesOn_42 vl_X11_617 CF11 rfl qp9.1 qp9.2 (by omega) rfl rfl (Nat.le_of_ble_eq_true rfl) ?_
      refine j_sipush C dX11_comesOn_45 rfl ?_
      refine j_icmp_le C 53 dX11_comesOn_48 rfl h (fun c67 h => ?_) (fun c67 h => ?_)
      · refine j_bipush C dX11_comesOn_53 rfl ?_
        refine j_istore (ls' := [some (vR _), some (vI _), some (vI _), some (vI _), some (vI _), none]) C dX11_comesOn_55 (by decide) rfl ?_
        refine j_iconst C dX11_comesOn_57 rfl ?_
        refine j_istore (ls' := [some (vR _), some (vI _), some (vI _), some (vI _), some (vI _), some (vI _)]) C dX11_comesOn_58 (by decide) rfl ?_
        refine X11_comesOn_L60_ok C hlv (fun z13 z14 z15 z16 z17 m18 h => ?_) N h
        refine j_aload_n C dX11_comesOn_92 rfl ?_
        refine j_getR C dX11_comesOn_93 CF11 (by decide) fl_X11_7 rfl rfl h (fun t19 h => ?_)
        refine j_iload_n C dX11_comesOn_96 rfl ?_
        refine j_iconst C dX11_comesOn_97 rfl ?_
        refine j_isub C dX11_comesOn_98 ?_
        refine j_iald C dX11_comesOn_99 rfl h (fun t20 h => ?_)
        refine j_iload C dX11_comesOn_100 rfl ?_
        refine j_icmp_eq C 107 dX11_comesOn_102 rfl h (fun c65 h => ?_) (fun c65 h => ?_)
        · refine j_aload_n C dX11_comesOn_107 rfl ?_
          refine j_iconst C dX11_comesOn_108 rfl ?_
          refine j_iconst C dX11_comesOn_109 rfl ?_
          obtain ⟨p21, ep21, h⟩ := bind_some h
          have qp21 := X11_copies_ct ep21
          refine j_cVV C dX11_comesOn_110 vl_X11_448 CF11 rfl qp21.1 qp21.2 (by omega) rfl rfl (Nat.le_of_ble_eq_true rfl) ?_
          refine j_iconst C dX11_comesOn_113 rfl ?_
          refine j_istore (ls' := [some (vR _), some (vI _), some (vI _), some (vI _), some (vI _), some (vI _)]) C dX11_comesOn_114 (by decide) rfl ?_
          refine j_mask [true, false, true, true, false, true] (ls' := [some (vR _), none, some (vI _), some (vI _), none, some (vI _)]) rfl ?_
          refine X11_comesOn_L116_ok C hlv (fun z32 z33 z34 m35 h => ?_) N h
          refine j_iconst C dX11_comesOn_165 rfl ?_
          refine j_istore (ls' := [some (vR _), none, some (vI _), some (vI _), none, some (vI _)]) C dX11_comesOn_166 (by decide) rfl ?_
          refine X11_comesOn_L168_ok C hlv (fun z43 z44 m45 h => ?_) N h
          refine j_iconst C dX11_comesOn_206 rfl ?_
          refine j_istore (ls' := [some (vR _), none, none, some (vI _), none, some (vI _)]) C dX11_comesOn_207 (by decide) rfl ?_
          refine X11_comesOn_L209_ok C hlv (fun z57 m58 h => ?_) N h
          refine j_aload_n C dX11_comesOn_265 rfl ?_
          refine j_getR C dX11_comesOn_266 CF11 (by decide) fl_X11_164 rfl rfl h (fun t59 h => ?_)
          refine j_iconst C dX11_comesOn_269 rfl ?_
          refine j_aload_n C dX11_comesOn_270 rfl ?_
          refine j_iconst C dX11_comesOn_271 rfl ?_
          obtain ⟨p60, ep60, h⟩ := bind_some h
          have qp60 := X11_twoBytes_ct ep60
          refine j_cVI C dX11_comesOn_272 vl_X11_617 CF11 rfl qp60.1 qp60.2 (by omega) rfl rfl (Nat.le_of_ble_eq_true rfl) ?_
          refine j_iast C dX11_comesOn_275 rfl h (fun m61 h => ?_)
          refine j_aload_n C dX11_comesOn_276 rfl ?_
          obtain ⟨p62, ep62, h⟩ := bind_some h
          have qp62 := X11_canBe_ct ep62
          refine j_cVI C dX11_comesOn_277 vl_X11_620 CF11 rfl qp62.1 qp62.2 (by omega) rfl rfl (Nat.le_of_ble_eq_true rfl) ?_
          obtain ⟨r63, er63, h⟩ := bind_some h
          have e := Option.some.inj h
          subst e
          exact j_rz C dX11_comesOn_280 rfl (retZ_some er63) rfl
        · refine j_iconst C dX11_comesOn_105 rfl ?_
          obtain ⟨r64, er64, h⟩ := bind_some h
          have e := Option.some.inj h
          subst e
          exact j_rz C dX11_comesOn_106 rfl (retZ_some er64) rfl
      · refine j_iconst C dX11_comesOn_51 rfl ?_
        obtain ⟨r66, er66, h⟩ := bind_some h
        have e := Option.some.inj h
        subst e
        exact j_rz C dX11_comesOn_52 rfl (retZ_some er66) rfl
theorem dX11_isStep_0 : decode cX11_isStep 0 = .ok (.aload_n 0, 1) := by decide +kernel
theorem dX11_isStep_1 : decode cX11_isStep 1 = .ok (.iconst 0, 1) := by decide +kernel
theorem dX11_isStep_2 : decode cX11_isStep 2 = .ok (.iload_n 1, 1) := by decide +kernel
theorem dX11_isStep_3 : decode cX11_isStep 3 = .ok (.invokevirtual 451, 3) := by decide +kernel
theorem dX11_isStep_6 : decode cX11_isStep 6 = .ok (.ifCond .ne 26, 3) := by decide +kernel
theorem dX11_isStep_9 : decode cX11_isStep 9 = .ok (.aload_n 0, 1) := by decide +kernel
theorem dX11_isStep_10 : decode cX11_isStep 10 = .ok (.iconst 0, 1) := by decide +kernel
theorem dX11_isStep_11 : decode cX11_isStep 11 = .ok (.iload_n 2, 1) := by decide +kernel
theorem dX11_isStep_12 : decode cX11_isStep 12 = .ok (.invokevirtual 451, 3) := by decide +kernel
theorem dX11_isStep_15 : decode cX11_isStep 15 = .ok (.ifCond .ne 17, 3) := by decide +kernel
theorem dX11_isStep_18 : decode cX11_isStep 18 = .ok (.aload_n 0, 1) := by decide +kernel
theorem dX11_isStep_19 : decode cX11_isStep 19 = .ok (.iload_n 1, 1) := by decide +kernel
theorem dX11_isStep_20 : decode cX11_isStep 20 = .ok (.iload_n 2, 1) := by decide +kernel
theorem dX11_isStep_21 : decode cX11_isStep 21 = .ok (.invokevirtual 467, 3) := by decide +kernel
theorem dX11_isStep_24 : decode cX11_isStep 24 = .ok (.iconst 1, 1) := by decide +kernel
theorem dX11_isStep_25 : decode cX11_isStep 25 = .ok (.if_icmp .ne 7, 3) := by decide +kernel
theorem dX11_isStep_28 : decode cX11_isStep 28 = .ok (.iconst 1, 1) := by decide +kernel
theorem dX11_isStep_29 : decode cX11_isStep 29 = .ok (.goto 4, 3) := by decide +kernel
theorem dX11_isStep_32 : decode cX11_isStep 32 = .ok (.iconst 0, 1) := by decide +kernel
theorem dX11_isStep_33 : decode cX11_isStep 33 = .ok (.ireturn, 1) := by decide +kernel
set_option maxRecDepth 100000 in
set_option maxHeartbeats 4000000 in
theorem X11_isStep_ct {l0 : Nat} {l1 : Int} {l2 : Int} {m : Mem} {out : Int} (h : X11_isStep l0 l1 l2 m = some out) : shK l0 = 11 + 10 ∧ CT yX11_isStep cX11_isStep 3 (some .boolean) 2 0 0 [vR l0, vI l1, vI l2] 312 m (some (vI out)) 312 m := by
  unfold X11_isStep at h
  obtain ⟨hK, h⟩ := ite_some h
  have hlv : 1 < 2 := by decide
  refine ⟨hK, CT.of (by decide +kernel) rfl (Nat.le_of_ble_eq_true rfl) (ls := [some (vR l0), some (vI l1), some (vI l2)]) rfl fun g w C _ => ?_⟩
  refine j_aload_n C dX11_isStep_0 rfl ?_
  refine j_iconst C dX11_isStep_1 rfl ?_
  refine j_iload_n C dX11_isStep_2 rfl ?_
  obtain ⟨p1, ep1, h⟩ := bind_some h
  have qp1 := X11_isWall_ct ep1
  refine j_cVI C dX11_isStep_3 vl_X11_451 CF11 rfl qp1.1 qp1.2 (by omega) rfl rfl (Nat.le_of_ble_eq_true rfl) ?_
  refine j_if_ne C 32 dX11_isStep_6 rfl h (fun c6 h => ?_) (fun c6 h => ?_)
  · refine j_iconst C dX11_isStep_32 rfl ?_
    exact j_rz C dX11_isStep_33 rfl (retZ_some h) rfl
  · refine j_aload_n C dX11_isStep_9 rfl ?_
    refine j_iconst C dX11_isStep_10 rfl ?_
    refine j_iload_n C dX11_isStep_11 rfl ?_
    obtain ⟨p2, ep2, h⟩ := bind_some h
    have qp2 := X11_isWall_ct ep2
    refine j_cVI C dX11_isStep_12 vl_X11_451 CF11 rfl qp2.1 qp2.2 (by omega) rfl rfl (Nat.le_of_ble_eq_true rfl) ?_
    refine j_if_ne C 32 dX11_isStep_15 rfl h (fun c5 h => ?_) (fun c5 h => ?_)
    · refine j_iconst C dX11_isStep_32 rfl ?_
      exact j_rz C dX11_isStep_33 rfl (retZ_some h) rfl
    · refine j_aload_n C dX11_isStep_18 rfl ?_
      refine j_iload_n C dX11_isStep_19 rfl ?_
      refine j_iload_n C dX11_isStep_20 rfl ?_
      obtain ⟨p3, ep3, h⟩ := bind_some h
      have qp3 := X11_apart_ct ep3
      refine j_cVI C dX11_isStep_21 vl_X11_467 CF11 rfl qp3.1 qp3.2 (by omega) rfl rfl (Nat.le_of_ble_eq_true rfl) ?_
      refine j_iconst C dX11_isStep_24 rfl ?_
      refine j_icmp_ne C 32 dX11_isStep_25 rfl h (fun c4 h => ?_) (fun c4 h => ?_)
      · refine j_iconst C dX11_isStep_32 rfl ?_
        exact j_rz C dX11_isStep_33 rfl (retZ_some h) rfl
      · refine j_iconst C dX11_isStep_28 rfl ?_
        refine j_goto C 33 dX11_isStep_29 rfl ?_
        exact j_rz C dX11_isStep_33 rfl (retZ_some h) rfl
theorem dX11_countsWays_0 : decode cX11_countsWays 0 = .ok (.iconst 1, 1) := by decide +kernel
theorem dX11_countsWays_1 : decode cX11_countsWays 1 = .ok (.iload_n 1, 1) := by decide +kernel
theorem dX11_countsWays_2 : decode cX11_countsWays 2 = .ok (.ishl, 1) := by decide +kernel
theorem dX11_countsWays_3 : decode cX11_countsWays 3 = .ok (.iconst 1, 1) := by decide +kernel
theorem dX11_countsWays_4 : decode cX11_countsWays 4 = .ok (.isub, 1) := by decide +kernel
theorem dX11_countsWays_5 : decode cX11_countsWays 5 = .ok (.istore_n 2, 1) := by decide +kernel
theorem dX11_countsWays_6 : decode cX11_countsWays 6 = .ok (.iload_n 2, 1) := by decide +kernel
theorem dX11_countsWays_7 : decode cX11_countsWays 7 = .ok (.istore_n 3, 1) := by decide +kernel
theorem dX11_countsWays_8 : decode cX11_countsWays 8 = .ok (.iload_n 3, 1) := by decide +kernel
theorem dX11_countsWays_9 : decode cX11_countsWays 9 = .ok (.ifCond .le 126, 3) := by decide +kernel
theorem dX11_countsWays_12 : decode cX11_countsWays 12 = .ok (.iconst 0, 1) := by decide +kernel
theorem dX11_countsWays_13 : decode cX11_countsWays 13 = .ok (.istore 4, 2) := by decide +kernel
theorem dX11_countsWays_15 : decode cX11_countsWays 15 = .ok (.iload 4, 2) := by decide +kernel
theorem dX11_countsWays_17 : decode cX11_countsWays 17 = .ok (.iload_n 1, 1) := by decide +kernel
theorem dX11_countsWays_18 : decode cX11_countsWays 18 = .ok (.if_icmp .ge 111, 3) := by decide +kernel
theorem dX11_countsWays_21 : decode cX11_countsWays 21 = .ok (.iload_n 3, 1) := by decide +kernel
theorem dX11_countsWays_22 : decode cX11_countsWays 22 = .ok (.iload_n 2, 1) := by decide +kernel
theorem dX11_countsWays_23 : decode cX11_countsWays 23 = .ok (.if_icmp .ne 7, 3) := by decide +kernel
theorem dX11_countsWays_26 : decode cX11_countsWays 26 = .ok (.iconst 1, 1) := by decide +kernel
theorem dX11_countsWays_27 : decode cX11_countsWays 27 = .ok (.goto 4, 3) := by decide +kernel
theorem dX11_countsWays_30 : decode cX11_countsWays 30 = .ok (.iconst 0, 1) := by decide +kernel
theorem dX11_countsWays_31 : decode cX11_countsWays 31 = .ok (.istore 5, 2) := by decide +kernel
theorem dX11_countsWays_33 : decode cX11_countsWays 33 = .ok (.iconst 0, 1) := by decide +kernel
theorem dX11_countsWays_34 : decode cX11_countsWays 34 = .ok (.istore 6, 2) := by decide +kernel
theorem dX11_countsWays_36 : decode cX11_countsWays 36 = .ok (.iload 6, 2) := by decide +kernel
theorem dX11_countsWays_38 : decode cX11_countsWays 38 = .ok (.iload_n 1, 1) := by decide +kernel
theorem dX11_countsWays_39 : decode cX11_countsWays 39 = .ok (.if_icmp .ge 70, 3) := by decide +kernel
theorem dX11_countsWays_42 : decode cX11_countsWays 42 = .ok (.iload_n 3, 1) := by decide +kernel
theorem dX11_countsWays_43 : decode cX11_countsWays 43 = .ok (.iload_n 2, 1) := by decide +kernel
theorem dX11_countsWays_44 : decode cX11_countsWays 44 = .ok (.if_icmp .eq 65, 3) := by decide +kernel
theorem dX11_countsWays_47 : decode cX11_countsWays 47 = .ok (.iload 5, 2) := by decide +kernel
theorem dX11_countsWays_49 : decode cX11_countsWays 49 = .ok (.iload_n 3, 1) := by decide +kernel
theorem dX11_countsWays_50 : decode cX11_countsWays 50 = .ok (.iload 6, 2) := by decide +kernel
theorem dX11_countsWays_52 : decode cX11_countsWays 52 = .ok (.ishr, 1) := by decide +kernel
theorem dX11_countsWays_53 : decode cX11_countsWays 53 = .ok (.iconst 1, 1) := by decide +kernel
theorem dX11_countsWays_54 : decode cX11_countsWays 54 = .ok (.iand, 1) := by decide +kernel
theorem dX11_countsWays_55 : decode cX11_countsWays 55 = .ok (.ifCond .ne 44, 3) := by decide +kernel
theorem dX11_countsWays_58 : decode cX11_countsWays 58 = .ok (.aload_n 0, 1) := by decide +kernel
theorem dX11_countsWays_59 : decode cX11_countsWays 59 = .ok (.aload_n 0, 1) := by decide +kernel
theorem dX11_countsWays_60 : decode cX11_countsWays 60 = .ok (.getfield 236, 3) := by decide +kernel
theorem dX11_countsWays_63 : decode cX11_countsWays 63 = .ok (.iload 4, 2) := by decide +kernel
theorem dX11_countsWays_65 : decode cX11_countsWays 65 = .ok (.iaload, 1) := by decide +kernel
theorem dX11_countsWays_66 : decode cX11_countsWays 66 = .ok (.aload_n 0, 1) := by decide +kernel
theorem dX11_countsWays_67 : decode cX11_countsWays 67 = .ok (.getfield 236, 3) := by decide +kernel
theorem dX11_countsWays_70 : decode cX11_countsWays 70 = .ok (.iload 6, 2) := by decide +kernel
theorem dX11_countsWays_72 : decode cX11_countsWays 72 = .ok (.iaload, 1) := by decide +kernel
theorem dX11_countsWays_73 : decode cX11_countsWays 73 = .ok (.invokevirtual 599, 3) := by decide +kernel
theorem dX11_countsWays_76 : decode cX11_countsWays 76 = .ok (.ifCond .eq 23, 3) := by decide +kernel
theorem dX11_countsWays_79 : decode cX11_countsWays 79 = .ok (.aload_n 0, 1) := by decide +kernel
theorem dX11_countsWays_80 : decode cX11_countsWays 80 = .ok (.getfield 239, 3) := by decide +kernel
theorem dX11_countsWays_83 : decode cX11_countsWays 83 = .ok (.bipush 10, 2) := by decide +kernel
theorem dX11_countsWays_85 : decode cX11_countsWays 85 = .ok (.iload_n 3, 1) := by decide +kernel
theorem dX11_countsWays_86 : decode cX11_countsWays 86 = .ok (.iconst 1, 1) := by decide +kernel
theorem dX11_countsWays_87 : decode cX11_countsWays 87 = .ok (.iload 6, 2) := by decide +kernel
theorem dX11_countsWays_89 : decode cX11_countsWays 89 = .ok (.ishl, 1) := by decide +kernel
theorem dX11_countsWays_90 : decode cX11_countsWays 90 = .ok (.ior, 1) := by decide +kernel
theorem dX11_countsWays_91 : decode cX11_countsWays 91 = .ok (.imul, 1) := by decide +kernel
theorem dX11_countsWays_92 : decode cX11_countsWays 92 = .ok (.iload 6, 2) := by decide +kernel
theorem dX11_countsWays_94 : decode cX11_countsWays 94 = .ok (.iadd, 1) := by decide +kernel
theorem dX11_countsWays_95 : decode cX11_countsWays 95 = .ok (.iaload, 1) := by decide +kernel
theorem dX11_countsWays_96 : decode cX11_countsWays 96 = .ok (.goto 4, 3) := by decide +kernel
theorem dX11_countsWays_99 : decode cX11_countsWays 99 = .ok (.iconst 0, 1) := by decide +kernel
theorem dX11_countsWays_100 : decode cX11_countsWays 100 = .ok (.iadd, 1) := by decide +kernel
theorem dX11_countsWays_101 : decode cX11_countsWays 101 = .ok (.istore 5, 2) := by decide +kernel
theorem dX11_countsWays_103 : decode cX11_countsWays 103 = .ok (.iinc 6 1, 3) := by decide +kernel
theorem dX11_countsWays_106 : decode cX11_countsWays 106 = .ok (.goto (-70), 3) := by decide +kernel
theorem dX11_countsWays_109 : decode cX11_countsWays 109 = .ok (.aload_n 0, 1) := by decide +kernel
theorem dX11_countsWays_110 : decode cX11_countsWays 110 = .ok (.getfield 239, 3) := by decide +kernel
theorem dX11_countsWays_113 : decode cX11_countsWays 113 = .ok (.bipush 10, 2) := by decide +kernel
theorem dX11_countsWays_115 : decode cX11_countsWays 115 = .ok (.iload_n 3, 1) := by decide +kernel
theorem dX11_countsWays_116 : decode cX11_countsWays 116 = .ok (.imul, 1) := by decide +kernel
theorem dX11_countsWays_117 : decode cX11_countsWays 117 = .ok (.iload 4, 2) := by decide +kernel
theorem dX11_countsWays_119 : decode cX11_countsWays 119 = .ok (.iadd, 1) := by decide +kernel
theorem dX11_countsWays_120 : decode cX11_countsWays 120 = .ok (.iload 5, 2) := by decide +kernel
theorem dX11_countsWays_122 : decode cX11_countsWays 122 = .ok (.iastore, 1) := by decide +kernel
theorem dX11_countsWays_123 : decode cX11_countsWays 123 = .ok (.iinc 4 1, 3) := by decide +kernel
theorem dX11_countsWays_126 : decode cX11_countsWays 126 = .ok (.goto (-111), 3) := by decide +kernel
theorem dX11_countsWays_129 : decode cX11_countsWays 129 = .ok (.iinc 3 (-1), 3) := by decide +kernel
theorem dX11_countsWays_132 : decode cX11_countsWays 132 = .ok (.goto (-124), 3) := by decide +kernel
theorem dX11_countsWays_135 : decode cX11_countsWays 135 = .ok (.return_, 1) := by decide +kernel
set_option maxRecDepth 100000 in
set_option maxHeartbeats 4000000 in
theorem X11_countsWays_J100_ok {g : Gm} {w : Wd} (C : Cx g w RX11 cX11_countsWays 7 none) {lv : Nat} (hlv : 2 < lv) {N : Nat} {r36 : Nat → Int → Int → Int → Int → Int → Int → Mem → Option Mem } {l0 : Nat} {l1 : Int} {l2 : Int} {l3 : Int} {l4 : Int} {l6 : Int} {s0 : Int} {s1 : Int} {m : Mem} {out : Mem} (hr36 : ∀ l0 l1 l2 l3 l4 l5 l6 m, r36 l0 l1 l2 l3 l4 l5 l6 m = some out → Jd g w 7 (rmL lv 0 0) (Qm g w none out) 36 [some (vR l0), some (vI l1), some (vI l2), some (vI l3), some (vI l4), some (vI l5), some (vI l6)] [] 312 m 0 0) (h : X11_countsWays_J100 N r36 l0 l1 l2 l3 l4 l6 s0 s1 m = some out) : Jd g w 7 (rmL lv 0 0) (Qm g w none out) 100 [some (vR l0), some (vI l1), some (vI l2), some (vI l3), some (vI l4), none, some (vI l6)] [vI s1, vI s0] 312 m 0 0 := by
  unfold X11_countsWays_J100 at h
  refine j_iadd C dX11_countsWays_100 ?_
  refine j_istore (ls' := [some (vR _), some (vI _), some (vI _), some (vI _), some (vI _), some (vI _), some (vI _)]) C dX11_countsWays_101 (by decide) rfl ?_
  refine j_iinc (ls' := [some (vR _), some (vI _), some (vI _), some (vI _), some (vI _), some (vI _), some (vI _)]) C dX11_countsWays_103 rfl (by decide) rfl ?_
  refine j_goto C 36 dX11_countsWays_106 rfl ?_
  exact hr36 _ _ _ _ _ _ _ _ h
set_option maxRecDepth 100000 in
set_option maxHeartbeats 4000000 in
theorem X11_countsWays_J99_ok {g : Gm} {w : Wd} (C : Cx g w RX11 cX11_countsWays 7 none) {lv : Nat} (hlv : 2 < lv) {N : Nat} {r36 : Nat → Int → Int → Int → Int → Int → Int → Mem → Option Mem } {l0 : Nat} {l1 : Int} {l2 : Int} {l3 : Int} {l4 : Int} {l6 : Int} {s0 : Int} {m : Mem} {out : Mem} (hr36 : ∀ l0 l1 l2 l3 l4 l5 l6 m, r36 l0 l1 l2 l3 l4 l5 l6 m = some out → Jd g w 7 (rmL lv 0 0) (Qm g w none out) 36 [some (vR l0), some (vI l1), some (vI l2), some (vI l3), some (vI l4), some (vI l5), some (vI l6)] [] 312 m 0 0) (h : X11_countsWays_J99 N r36 l0 l1 l2 l3 l4 l6 s0 m = some out) : Jd g w 7 (rmL lv 0 0) (Qm g w none out) 99 [some (vR l0), some (vI l1), some (vI l2), some (vI l3), some (vI l4), none, some (vI l6)] [vI s0] 312 m 0 0 := by
  unfold X11_countsWays_J99 at h
  refine j_iconst C dX11_countsWays_99 rfl ?_
  exact X11_countsWays_J100_ok C hlv hr36 h
set_option maxRecDepth 100000 in
set_option maxHeartbeats 4000000 in
theorem X11_countsWays_L36_bok {g : Gm} {w : Wd} (C : Cx g w RX11 cX11_countsWays 7 none) {lv : Nat} (hlv : 2 < lv) {N : Nat} {k109 : Nat → Int → Int → Int → Int → Int → Mem → Option Mem} {r36 : Nat → Int → Int → Int → Int → Int → Int → Mem → Option Mem} {l0 : Nat} {l1 : Int} {l2 : Int} {l3 : Int} {l4 : Int} {l5 : Int} {l6 : Int} {m : Mem} {out : Mem} (hk109 : ∀ l0 l1 l2 l3 l4 l5 m, k109 l0 l1 l2 l3 l4 l5 m = some out → Jd g w 7 (rmL lv 0 0) (Qm g w none out) 109 [some (vR l0), some (vI l1), some (vI l2), some (vI l3), some (vI l4), some (vI l5), none] [] 312 m 0 0) (hr36 : ∀ l0 l1 l2 l3 l4 l5 l6 m, r36 l0 l1 l2 l3 l4 l5 l6 m = some out → Jd g w 7 (rmL lv 0 0) (Qm g w none out) 36 [some (vR l0), some (vI l1), some (vI l2), some (vI l3), some (vI l4), some (vI l5), some (vI l6)] [] 312 m 0 0) (h : X11_countsWays_L36_b N k109 r36 l0 l1 l2 l3 l4 l5 l6 m = some out) : Jd g w 7 (rmL lv 0 0) (Qm g w none out) 36 [some (vR l0), some (vI l1), some (vI l2), some (vI l3), some (vI l4), some (vI l5), some (vI l6)] [] 312 m 0 0 := by
  unfold X11_countsWays_L36_b at h
  refine j_iload C dX11_countsWays_36 rfl ?_
  refine j_iload_n C dX11_countsWays_38 rfl ?_
  refine j_icmp_ge C 109 dX11_countsWays_39 rfl h (fun c11 h => ?_) (fun c11 h => ?_)
  · refine j_mask [true, true, true, true, true, true, false] (ls' := [some (vR _), some (vI _), some (vI _), some (vI _), some (vI _), some (vI _), none]) rfl ?_
    exact hk109 _ _ _ _ _ _ _ h
  · refine j_iload_n C dX11_countsWays_42 rfl ?_
    refine j_iload_n C dX11_countsWays_43 rfl ?_
    refine j_icmp_eq C 109 dX11_countsWays_44 rfl h (fun c10 h => ?_) (fun c10 h => ?_)
    · refine j_mask [true, true, true, true, true, true, false] (ls' := [some (vR _), some (vI _), some (vI _), some (vI _), some (vI _), some (vI _), none]) rfl ?_
      exact hk109 _ _ _ _ _ _ _ h
    · refine j_iload C dX11_countsWays_47 rfl ?_
      refine j_iload_n C dX11_countsWays_49 rfl ?_
      refine j_iload C dX11_countsWays_50 rfl ?_
      refine j_ishr C dX11_countsWays_52 ?_
      refine j_iconst C dX11_countsWays_53 rfl ?_
      refine j_iand C dX11_countsWays_54 ?_
      refine j_if_ne C 99 dX11_countsWays_55 rfl h (fun c9 h => ?_) (fun c9 h => ?_)
      · refine j_mask [true, true, true, true, true, false, true] (ls' := [some (vR _), some (vI _), some (vI _), some (vI _), some (vI _), none, some (vI _)]) rfl ?_
        exact X11_countsWays_J99_ok C hlv hr36 h
      · refine j_aload_n C dX11_countsWays_58 rfl ?_
        refine j_aload_n C dX11_countsWays_59 rfl ?_
        refine j_getR C dX11_countsWays_60 CF11 (by decide) fl_X11_236 rfl rfl h (fun t1 h => ?_)
        refine j_iload C dX11_countsWays_63 rfl ?_
        refine j_iald C dX11_countsWays_65 rfl h (fun t2 h => ?_)
        refine j_aload_n C dX11_countsWays_66 rfl ?_
        refine j_getR C dX11_countsWays_67 CF11 (by decide) fl_X11_236 rfl rfl h (fun t3 h => ?_)
        refine j_iload C dX11_countsWays_70 rfl ?_
        refine j_iald C dX11_countsWays_72 rfl h (fun t4 h => ?_)
        obtain ⟨p5, ep5, h⟩ := bind_some h
        have qp5 := X11_isStep_ct ep5
        refine j_cVI C dX11_countsWays_73 vl_X11_599 CF11 rfl qp5.1 qp5.2 (by omega) rfl rfl (Nat.le_of_ble_eq_true rfl) ?_
        refine j_if_eq C 99 dX11_countsWays_76 rfl h (fun c8 h => ?_) (fun c8 h => ?_)
        · refine j_mask [true, true, true, true, true, false, true] (ls' := [some (vR _), some (vI _), some (vI _), some (vI _), some (vI _), none, some (vI _)]) rfl ?_
          exact X11_countsWays_J99_ok C hlv hr36 h
        · refine j_aload_n C dX11_countsWays_79 rfl ?_
          refine j_getR C dX11_countsWays_80 CF11 (by decide) fl_X11_239 rfl rfl h (fun t6 h => ?_)
          refine j_bipush C dX11_countsWays_83 rfl ?_
          refine j_iload_n C dX11_countsWays_85 rfl ?_
          refine j_iconst C dX11_countsWays_86 rfl ?_
          refine j_iload C dX11_countsWays_87 rfl ?_
          refine j_ishl C dX11_countsWays_89 ?_
          refine j_ior C dX11_countsWays_90 ?_
          refine j_imul C dX11_countsWays_91 ?_
          refine j_iload C dX11_countsWays_92 rfl ?_
          refine j_iadd C dX11_countsWays_94 ?_
          refine j_iald C dX11_countsWays_95 rfl h (fun t7 h => ?_)
          refine j_goto C 100 dX11_countsWays_96 rfl ?_
          refine j_mask [true, true, true, true, true, false, true] (ls' := [some (vR _), some (vI _), some (vI _), some (vI _), some (vI _), none, some (vI _)]) rfl ?_
          exact X11_countsWays_J100_ok C hlv hr36 h
set_option maxRecDepth 100000 in
set_option maxHeartbeats 4000000 in
theorem X11_countsWays_L36_ok {g : Gm} {w : Wd} (C : Cx g w RX11 cX11_countsWays 7 none) {lv : Nat} (hlv : 2 < lv) {N : Nat} {k109 : Nat → Int → Int → Int → Int → Int → Mem → Option Mem} {out : Mem} (hk109 : ∀ l0 l1 l2 l3 l4 l5 m, k109 l0 l1 l2 l3 l4 l5 m = some out → Jd g w 7 (rmL lv 0 0) (Qm g w none out) 109 [some (vR l0), some (vI l1), some (vI l2), some (vI l3), some (vI l4), some (vI l5), none] [] 312 m 0 0) (f : Nat) : ∀ {l0 : Nat} {l1 : Int} {l2 : Int} {l3 : Int} {l4 : Int} {l5 : Int} {l6 : Int} {m : Mem}, X11_countsWays_L36 N k109 f l0 l1 l2 l3 l4 l5 l6 m = some out → Jd g w 7 (rmL lv 0 0) (Qm g w none out) 36 [some (vR l0), some (vI l1), some (vI l2), some (vI l3), some (vI l4), some (vI l5), some (vI l6)] [] 312 m 0 0 := by
  induction f with
  | zero => intro l0 l1 l2 l3 l4 l5 l6 m h; exact none_ne (α := Mem) h
  | succ f ih => intro l0 l1 l2 l3 l4 l5 l6 m h; exact X11_countsWays_L36_bok C hlv hk109 (fun l0 l1 l2 l3 l4 l5 l6 m h => ih h) h
set_option maxRecDepth 100000 in
set_option maxHeartbeats 4000000 in
theorem X11_countsWays_J31_ok {g : Gm} {w : Wd} (C : Cx g w RX11 cX11_countsWays 7 none) {lv : Nat} (hlv : 2 < lv) {N : Nat} {r15 : Nat → Int → Int → Int → Int → Mem → Option Mem } {l0 : Nat} {l1 : Int} {l2 : Int} {l3 : Int} {l4 : Int} {s0 : Int} {m : Mem} {out : Mem} (hr15 : ∀ l0 l1 l2 l3 l4 m, r15 l0 l1 l2 l3 l4 m = some out → Jd g w 7 (rmL lv 0 0) (Qm g w none out) 15 [some (vR l0), some (vI l1), some (vI l2), some (vI l3), some (vI l4), none, none] [] 312 m 0 0) (h : X11_countsWays_J31 N r15 l0 l1 l2 l3 l4 s0 m = some out) : Jd g w 7 (rmL lv 0 0) (Qm g w none out) 31 [some (vR l0), some (vI l1), some (vI l2), some (vI l3), some (vI l4), none, none] [vI s0] 312 m 0 0 := by
  unfold X11_countsWays_J31 at h
  refine j_istore (ls' := [some (vR _), some (vI _), some (vI _), some (vI _), some (vI _), some (vI _), none]) C dX11_countsWays_31 (by decide) rfl ?_
  refine j_iconst C dX11_countsWays_33 rfl ?_
  refine j_istore (ls' := [some (vR _), some (vI _), some (vI _), some (vI _), some (vI _), some (vI _), some (vI _)]) C dX11_countsWays_34 (by decide) rfl ?_
  refine X11_countsWays_L36_ok C hlv (fun z12 z13 z14 z15 z16 z17 m18 h => ?_) N h
  refine j_aload_n C dX11_countsWays_109 rfl ?_
  refine j_getR C dX11_countsWays_110 CF11 (by decide) fl_X11_239 rfl rfl h (fun t19 h => ?_)
  refine j_bipush C dX11_countsWays_113 rfl ?_
  refine j_iload_n C dX11_countsWays_115 rfl ?_
  refine j_imul C dX11_countsWays_116 ?_
  refine j_iload C dX11_countsWays_117 rfl ?_
  refine j_iadd C dX11_countsWays_119 ?_
  refine j_iload C dX11_countsWays_120 rfl ?_
  refine j_iast C dX11_countsWays_122 rfl h (fun m20 h => ?_)
  refine j_iinc (ls' := [some (vR _), some (vI _), some (vI _), some (vI _), some (vI _), some (vI _), none]) C dX11_countsWays_123 rfl (by decide) rfl ?_
  refine j_goto C 15 dX11_countsWays_126 rfl ?_
  refine j_mask [true, true, true, true, true, false, false] (ls' := [some (vR _), some (vI _), some (vI _), some (vI _), some (vI _), none, none]) rfl ?_
  exact hr15 _ _ _ _ _ _ h
set_option maxRecDepth 100000 in
set_option maxHeartbeats 4000000 in
theorem X11_countsWays_L15_bok {g : Gm} {w : Wd} (C : Cx g w RX11 cX11_countsWays 7 none) {lv : Nat} (hlv : 2 < lv) {N : Nat} {k129 : Nat → Int → Int → Int → Mem → Option Mem} {r15 : Nat → Int → Int → Int → Int → Mem → Option Mem} {l0 : Nat} {l1 : Int} {l2 : Int} {l3 : Int} {l4 : Int} {m : Mem} {out : Mem} (hk129 : ∀ l0 l1 l2 l3 m, k129 l0 l1 l2 l3 m = some out → Jd g w 7 (rmL lv 0 0) (Qm g w none out) 129 [some (vR l0), some (vI l1), some (vI l2), some (vI l3), none, none, none] [] 312 m 0 0) (hr15 : ∀ l0 l1 l2 l3 l4 m, r15 l0 l1 l2 l3 l4 m = some out → Jd g w 7 (rmL lv 0 0) (Qm g w none out) 15 [some (vR l0), some (vI l1), some (vI l2), some (vI l3), some (vI l4), none, none] [] 312 m 0 0) (h : X11_countsWays_L15_b N k129 r15 l0 l1 l2 l3 l4 m = some out) : Jd g w 7 (rmL lv 0 0) (Qm g w none out) 15 [some (vR l0), some (vI l1), some (vI l2), some (vI l3), some (vI l4), none, none] [] 312 m 0 0 := by
  unfold X11_countsWays_L15_b at h
  refine j_iload C dX11_countsWays_15 rfl ?_
  refine j_iload_n C dX11_countsWays_17 rfl ?_
  refine j_icmp_ge C 129 dX11_countsWays_18 rfl h (fun c22 h => ?_) (fun c22 h => ?_)
  · refine j_mask [true, true, true, true, false, false, false] (ls' := [some (vR _), some (vI _), some (vI _), some (vI _), none, none, none]) rfl ?_
    exact hk129 _ _ _ _ _ h
  · refine j_iload_n C dX11_countsWays_21 rfl ?_
    refine j_iload_n C dX11_countsWays_22 rfl ?_
    refine j_icmp_ne C 30 dX11_countsWays_23 rfl h (fun c21 h => ?_) (fun c21 h => ?_)
    · refine j_iconst C dX11_countsWays_30 rfl ?_
      exact X11_countsWays_J31_ok C hlv hr15 h
    · refine j_iconst C dX11_countsWays_26 rfl ?_
      refine j_goto C 31 dX11_countsWays_27 rfl ?_
      exact X11_countsWays_J31_ok C hlv hr15 h
set_option maxRecDepth 100000 in
set_option maxHeartbeats 4000000 in
theorem X11_countsWays_L15_ok {g : Gm} {w : Wd} (C : Cx g w RX11 cX11_countsWays 7 none) {lv : Nat} (hlv : 2 < lv) {N : Nat} {k129 : Nat → Int → Int → Int → Mem → Option Mem} {out : Mem} (hk129 : ∀ l0 l1 l2 l3 m, k129 l0 l1 l2 l3 m = some out → Jd g w 7 (rmL lv 0 0) (Qm g w none out) 129 [some (vR l0), some (vI l1), some (vI l2), some (vI l3), none, none, none] [] 312 m 0 0) (f : Nat) : ∀ {l0 : Nat} {l1 : Int} {l2 : Int} {l3 : Int} {l4 : Int} {m : Mem}, X11_countsWays_L15 N k129 f l0 l1 l2 l3 l4 m = some out → Jd g w 7 (rmL lv 0 0) (Qm g w none out) 15 [some (vR l0), some (vI l1), some (vI l2), some (vI l3), some (vI l4), none, none] [] 312 m 0 0 := by
  induction f with
  | zero => intro l0 l1 l2 l3 l4 m h; exact none_ne (α := Mem) h
  | succ f ih => intro l0 l1 l2 l3 l4 m h; exact X11_countsWays_L15_bok C hlv hk129 (fun l0 l1 l2 l3 l4 m h => ih h) h
set_option maxRecDepth 100000 in
set_option maxHeartbeats 4000000 in
theorem X11_countsWays_L8_bok {g : Gm} {w : Wd} (C : Cx g w RX11 cX11_countsWays 7 none) {lv : Nat} (hlv : 2 < lv) {N : Nat} {r8 : Nat → Int → Int → Int → Mem → Option Mem} {l0 : Nat} {l1 : Int} {l2 : Int} {l3 : Int} {m : Mem} {out : Mem} (hr8 : ∀ l0 l1 l2 l3 m, r8 l0 l1 l2 l3 m = some out → Jd g w 7 (rmL lv 0 0) (Qm g w none out) 8 [some (vR l0), some (vI l1), some (vI l2), some (vI l3), none, none, none] [] 312 m 0 0) (h : X11_countsWays_L8_b N r8 l0 l1 l2 l3 m = some out) : Jd g w 7 (rmL lv 0 0) (Qm g w none out) 8 [some (vR l0), some (vI l1), some (vI l2), some (vI l3), none, none, none] [] 312 m 0 0 := by
  unfold X11_countsWays_L8_b at h
  refine j_iload_n C dX11_countsWays_8 rfl ?_
  refine j_if_le C 135 dX11_countsWays_9 rfl h (fun c28 h => ?_) (fun c28 h => ?_)
  · have e := Option.some.inj h
    subst e
    exact j_rv C dX11_countsWays_135 rfl rfl
  · refine j_iconst C dX11_countsWays_12 rfl ?_
    refine j_istore (ls' := [some (vR _), some (vI _), some (vI _), some (vI _), some (vI _), none, none]) C dX11_countsWays_13 (by decide) rfl ?_
    refine X11_countsWays_L15_ok C hlv (fun z23 z24 z25 z26 m27 h => ?_) N h
    refine j_iinc (ls' := [some (vR _), some (vI _), some (vI _), some (vI _), none, none, none]) C dX11_countsWays_129 rfl (by decide) rfl ?_
    refine j_goto C 8 dX11_countsWays_132 rfl ?_
    exact hr8 _ _ _ _ _ h
set_option maxRecDepth 100000 in
set_option maxHeartbeats 4000000 in
theorem X11_countsWays_L8_ok {g : Gm} {w : Wd} (C : Cx g w RX11 cX11_countsWays 7 none) {lv : Nat} (hlv : 2 < lv) {N : Nat} {out : Mem} (f : Nat) : ∀ {l0 : Nat} {l1 : Int} {l2 : Int} {l3 : Int} {m : Mem}, X11_countsWays_L8 N f l0 l1 l2 l3 m = some out → Jd g w 7 (rmL lv 0 0) (Qm g w none out) 8 [some (vR l0), some (vI l1), some (vI l2), some (vI l3), none, none, none] [] 312 m 0 0 := by
  induction f with
  | zero => intro l0 l1 l2 l3 m h; exact none_ne (α := Mem) h
  | succ f ih => intro l0 l1 l2 l3 m h; exact X11_countsWays_L8_bok C hlv (fun l0 l1 l2 l3 m h => ih h) h
set_option maxRecDepth 100000 in
set_option maxHeartbeats 4000000 in
theorem X11_countsWays_ct {N : Nat} {l0 : Nat} {l1 : Int} {m : Mem} {out : Mem} (h : X11_countsWays N l0 l1 m = some out) : shK l0 = 11 + 10 ∧ CT yX11_countsWays cX11_countsWays 7 none 3 0 0 [vR l0, vI l1] 312 m none 312 out := by
  unfold X11_countsWays at h
  obtain ⟨hK, h⟩ := ite_some h
  have hlv : 2 < 3 := by decide
  refine ⟨hK, CT.of (by decide +kernel) rfl (Nat.le_of_ble_eq_true rfl) (ls := [some (vR l0), some (vI l1), none, none, none, none, none]) rfl fun g w C _ => ?_⟩
  refine j_iconst C dX11_countsWays_0 rfl ?_
  refine j_iload_n C dX11_countsWays_1 rfl ?_
  refine j_ishl C dX11_countsWays_2 ?_
  refine j_iconst C dX11_countsWays_3 rfl ?_
  refine j_isub C dX11_countsWays_4 ?_
  refine j_istore_n (ls' := [some (vR _), some (vI _), some (vI _), none, none, none, none]) C dX11_countsWays_5 (by decide) rfl ?_
  refine j_iload_n C dX11_countsWays_6 rfl ?_
  refine j_istore_n (ls' := [some (vR _), some (vI _), some (vI _), some (vI _), none, none, none]) C dX11_countsWays_7 (by decide) rfl ?_
  exact X11_countsWays_L8_ok C hlv N h
