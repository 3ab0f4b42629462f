theorem dX8_skyOf_0 : decode cX8_skyOf 0 = .ok (.iload_n 0, 1) := by decide +kernel
theorem dX8_skyOf_1 : decode cX8_skyOf 1 = .ok (.lookupswitch 51 #[(99, 43), (111, 45), (115, 49), (119, 47)], 43) := by decide +kernel
theorem dX8_skyOf_44 : decode cX8_skyOf 44 = .ok (.iconst 0, 1) := by decide +kernel
theorem dX8_skyOf_45 : decode cX8_skyOf 45 = .ok (.ireturn, 1) := by decide +kernel
theorem dX8_skyOf_46 : decode cX8_skyOf 46 = .ok (.iconst 1, 1) := by decide +kernel
theorem dX8_skyOf_47 : decode cX8_skyOf 47 = .ok (.ireturn, 1) := by decide +kernel
theorem dX8_skyOf_48 : decode cX8_skyOf 48 = .ok (.iconst 2, 1) := by decide +kernel
theorem dX8_skyOf_49 : decode cX8_skyOf 49 = .ok (.ireturn, 1) := by decide +kernel
theorem dX8_skyOf_50 : decode cX8_skyOf 50 = .ok (.iconst 3, 1) := by decide +kernel
theorem dX8_skyOf_51 : decode cX8_skyOf 51 = .ok (.ireturn, 1) := by decide +kernel
theorem dX8_skyOf_52 : decode cX8_skyOf 52 = .ok (.iconst (-1), 1) := by decide +kernel
theorem dX8_skyOf_53 : decode cX8_skyOf 53 = .ok (.ireturn, 1) := by decide +kernel
set_option maxRecDepth 100000 in
set_option maxHeartbeats 4000000 in
theorem X8_skyOf_ct {l0 : Int} {m : Mem} {out : Int} (h : X8_skyOf l0 m = some out) : CT yX8_skyOf cX8_skyOf 1 (some .int) 1 0 0 [vI l0] 312 m (some (vI out)) 312 m := by
  unfold X8_skyOf at h
  have hlv : 0 < 1 := by decide
  refine CT.of (by decide +kernel) rfl (Nat.le_of_ble_eq_true rfl) (ls := [some (vI l0)]) rfl fun g w C _ => ?_
  refine j_iload_n C dX8_skyOf_0 rfl ?_
  rcases ite_cases h with ⟨c1, h⟩ | ⟨c1, h⟩
  · refine j_lks C 44 dX8_skyOf_1 (by decide) (by rw [c1] <;> rfl) rfl ?_
    refine j_iconst C dX8_skyOf_44 rfl ?_
    exact j_ri C dX8_skyOf_45 rfl (Option.some.inj h).symm rfl
  rcases ite_cases h with ⟨c2, h⟩ | ⟨c2, h⟩
  · refine j_lks C 46 dX8_skyOf_1 (by decide) (by rw [c2] <;> rfl) rfl ?_
    refine j_iconst C dX8_skyOf_46 rfl ?_
    exact j_ri C dX8_skyOf_47 rfl (Option.some.inj h).symm rfl
  rcases ite_cases h with ⟨c3, h⟩ | ⟨c3, h⟩
  · refine j_lks C 50 dX8_skyOf_1 (by decide) (by rw [c3] <;> rfl) rfl ?_
    refine j_iconst C dX8_skyOf_50 rfl ?_
    exact j_ri C dX8_skyOf_51 rfl (Option.some.inj h).symm rfl
  rcases ite_cases h with ⟨c4, h⟩ | ⟨c4, h⟩
  · refine j_lks C 48 dX8_skyOf_1 (by decide) (by rw [c4] <;> rfl) rfl ?_
    refine j_iconst C dX8_skyOf_48 rfl ?_
    exact j_ri C dX8_skyOf_49 rfl (Option.some.inj h).symm rfl
  refine j_lks (off := 51) C 52 dX8_skyOf_1 (by decide) (by simp only [Op.lookupswitch.offset]; repeat rw [if_neg (by omega)]) rfl ?_
  refine j_iconst C dX8_skyOf_52 rfl ?_
  exact j_ri C dX8_skyOf_53 rfl (Option.some.inj h).symm rfl
theorem dX8_putLetters_0 : decode cX8_putLetters 0 = .ok (.iconst 0, 1) := by decide +kernel
theorem dX8_putLetters_1 : decode cX8_putLetters 1 = .ok (.istore 4, 2) := by decide +kernel
theorem dX8_putLetters_3 : decode cX8_putLetters 3 = .ok (.iload_n 3, 1) := by decide +kernel
theorem dX8_putLetters_4 : decode cX8_putLetters 4 = .ok (.iload_n 2, 1) := by decide +kernel
theorem dX8_putLetters_5 : decode cX8_putLetters 5 = .ok (.isub, 1) := by decide +kernel
theorem dX8_putLetters_6 : decode cX8_putLetters 6 = .ok (.bipush 12, 2) := by decide +kernel
theorem dX8_putLetters_8 : decode cX8_putLetters 8 = .ok (.if_icmp .gt 7, 3) := by decide +kernel
theorem dX8_putLetters_11 : decode cX8_putLetters 11 = .ok (.iconst 1, 1) := by decide +kernel
theorem dX8_putLetters_12 : decode cX8_putLetters 12 = .ok (.goto 4, 3) := by decide +kernel
theorem dX8_putLetters_15 : decode cX8_putLetters 15 = .ok (.iconst 0, 1) := by decide +kernel
theorem dX8_putLetters_16 : decode cX8_putLetters 16 = .ok (.istore 5, 2) := by decide +kernel
theorem dX8_putLetters_18 : decode cX8_putLetters 18 = .ok (.iload_n 2, 1) := by decide +kernel
theorem dX8_putLetters_19 : decode cX8_putLetters 19 = .ok (.istore 6, 2) := by decide +kernel
theorem dX8_putLetters_21 : decode cX8_putLetters 21 = .ok (.iload 6, 2) := by decide +kernel
theorem dX8_putLetters_23 : decode cX8_putLetters 23 = .ok (.iload_n 3, 1) := by decide +kernel
theorem dX8_putLetters_24 : decode cX8_putLetters 24 = .ok (.if_icmp .ge 50, 3) := by decide +kernel
theorem dX8_putLetters_27 : decode cX8_putLetters 27 = .ok (.iload 5, 2) := by decide +kernel
theorem dX8_putLetters_29 : decode cX8_putLetters 29 = .ok (.ifCond .eq 45, 3) := by decide +kernel
theorem dX8_putLetters_32 : decode cX8_putLetters 32 = .ok (.aload_n 1, 1) := by decide +kernel
theorem dX8_putLetters_33 : decode cX8_putLetters 33 = .ok (.iload 6, 2) := by decide +kernel
theorem dX8_putLetters_35 : decode cX8_putLetters 35 = .ok (.iaload, 1) := by decide +kernel
theorem dX8_putLetters_36 : decode cX8_putLetters 36 = .ok (.invokestatic 75, 3) := by decide +kernel
theorem dX8_putLetters_39 : decode cX8_putLetters 39 = .ok (.istore 7, 2) := by decide +kernel
theorem dX8_putLetters_41 : decode cX8_putLetters 41 = .ok (.iload 7, 2) := by decide +kernel
theorem dX8_putLetters_43 : decode cX8_putLetters 43 = .ok (.iconst (-1), 1) := by decide +kernel
theorem dX8_putLetters_44 : decode cX8_putLetters 44 = .ok (.if_icmp .eq 7, 3) := by decide +kernel
theorem dX8_putLetters_47 : decode cX8_putLetters 47 = .ok (.iconst 1, 1) := by decide +kernel
theorem dX8_putLetters_48 : decode cX8_putLetters 48 = .ok (.goto 4, 3) := by decide +kernel
theorem dX8_putLetters_51 : decode cX8_putLetters 51 = .ok (.iconst 0, 1) := by decide +kernel
theorem dX8_putLetters_52 : decode cX8_putLetters 52 = .ok (.istore 5, 2) := by decide +kernel
theorem dX8_putLetters_54 : decode cX8_putLetters 54 = .ok (.iload 4, 2) := by decide +kernel
theorem dX8_putLetters_56 : decode cX8_putLetters 56 = .ok (.iload 7, 2) := by decide +kernel
theorem dX8_putLetters_58 : decode cX8_putLetters 58 = .ok (.iconst 2, 1) := by decide +kernel
theorem dX8_putLetters_59 : decode cX8_putLetters 59 = .ok (.iload 6, 2) := by decide +kernel
theorem dX8_putLetters_61 : decode cX8_putLetters 61 = .ok (.iload_n 2, 1) := by decide +kernel
theorem dX8_putLetters_62 : decode cX8_putLetters 62 = .ok (.isub, 1) := by decide +kernel
theorem dX8_putLetters_63 : decode cX8_putLetters 63 = .ok (.imul, 1) := by decide +kernel
theorem dX8_putLetters_64 : decode cX8_putLetters 64 = .ok (.ishl, 1) := by decide +kernel
theorem dX8_putLetters_65 : decode cX8_putLetters 65 = .ok (.ior, 1) := by decide +kernel
theorem dX8_putLetters_66 : decode cX8_putLetters 66 = .ok (.istore 4, 2) := by decide +kernel
theorem dX8_putLetters_68 : decode cX8_putLetters 68 = .ok (.iinc 6 1, 3) := by decide +kernel
theorem dX8_putLetters_71 : decode cX8_putLetters 71 = .ok (.goto (-50), 3) := by decide +kernel
theorem dX8_putLetters_74 : decode cX8_putLetters 74 = .ok (.aload_n 0, 1) := by decide +kernel
theorem dX8_putLetters_75 : decode cX8_putLetters 75 = .ok (.iload 5, 2) := by decide +kernel
theorem dX8_putLetters_77 : decode cX8_putLetters 77 = .ok (.ifCond .eq 7, 3) := by decide +kernel
theorem dX8_putLetters_80 : decode cX8_putLetters 80 = .ok (.iconst 4, 1) := by decide +kernel
theorem dX8_putLetters_81 : decode cX8_putLetters 81 = .ok (.goto 5, 3) := by decide +kernel
theorem dX8_putLetters_84 : decode cX8_putLetters 84 = .ok (.bipush 6, 2) := by decide +kernel
theorem dX8_putLetters_86 : decode cX8_putLetters 86 = .ok (.iload_n 2, 1) := by decide +kernel
theorem dX8_putLetters_87 : decode cX8_putLetters 87 = .ok (.iload 5, 2) := by decide +kernel
theorem dX8_putLetters_89 : decode cX8_putLetters 89 = .ok (.ifCond .eq 8, 3) := by decide +kernel
theorem dX8_putLetters_92 : decode cX8_putLetters 92 = .ok (.iload 4, 2) := by decide +kernel
theorem dX8_putLetters_94 : decode cX8_putLetters 94 = .ok (.goto 4, 3) := by decide +kernel
theorem dX8_putLetters_97 : decode cX8_putLetters 97 = .ok (.iload_n 2, 1) := by decide +kernel
theorem dX8_putLetters_98 : decode cX8_putLetters 98 = .ok (.invokevirtual 55, 3) := by decide +kernel
theorem dX8_putLetters_101 : decode cX8_putLetters 101 = .ok (.return_, 1) := by decide +kernel
set_option maxRecDepth 100000 in
set_option maxHeartbeats 4000000 in
theorem X8_putLetters_J52_ok {g : Gm} {w : Wd} (C : Cx g w RX8 cX8_putLetters 8 none) {lv : Nat} (hlv : 1 < lv) {N : Nat} {r21 : Nat → Nat → Int → Int → Int → Int → Int → Mem → Option Mem } {l0 : Nat} {l1 : Nat} {l2 : Int} {l3 : Int} {l4 : Int} {l6 : Int} {l7 : Int} {s0 : Int} {m : Mem} {out : Mem} (hr21 : ∀ l0 l1 l2 l3 l4 l5 l6 m, r21 l0 l1 l2 l3 l4 l5 l6 m = some out → Jd g w 8 (rmL lv 0 0) (Qm g w none out) 21 [some (vR l0), some (vR l1), some (vI l2), some (vI l3), some (vI l4), some (vI l5), some (vI l6), none] [] 312 m 0 0) (h : X8_putLetters_J52 N r21 l0 l1 l2 l3 l4 l6 l7 s0 m = some out) : Jd g w 8 (rmL lv 0 0) (Qm g w none out) 52 [some (vR l0), some (vR l1), some (vI l2), some (vI l3), some (vI l4), none, some (vI l6), some (vI l7)] [vI s0] 312 m 0 0 := by
  unfold X8_putLetters_J52 at h
  refine j_istore (ls' := [some (vR _), some (vR _), some (vI _), some (vI _), some (vI _), some (vI _), some (vI _), some (vI _)]) C dX8_putLetters_52 (by decide) rfl ?_
  refine j_iload C dX8_putLetters_54 rfl ?_
  refine j_iload C dX8_putLetters_56 rfl ?_
  refine j_iconst C dX8_putLetters_58 rfl ?_
  refine j_iload C dX8_putLetters_59 rfl ?_
  refine j_iload_n C dX8_putLetters_61 rfl ?_
  refine j_isub C dX8_putLetters_62 ?_
  refine j_imul C dX8_putLetters_63 ?_
  refine j_ishl C dX8_putLetters_64 ?_
  refine j_ior C dX8_putLetters_65 ?_
  refine j_istore (ls' := [some (vR _), some (vR _), some (vI _), some (vI _), some (vI _), some (vI _), some (vI _), some (vI _)]) C dX8_putLetters_66 (by decide) rfl ?_
  refine j_iinc (ls' := [some (vR _), some (vR _), some (vI _), some (vI _), some (vI _), some (vI _), some (vI _), some (vI _)]) C dX8_putLetters_68 rfl (by decide) rfl ?_
  refine j_goto C 21 dX8_putLetters_71 rfl ?_
  refine j_mask [true, true, true, true, true, true, true, false] (ls' := [some (vR _), some (vR _), some (vI _), some (vI _), some (vI _), some (vI _), some (vI _), none]) rfl ?_
  exact hr21 _ _ _ _ _ _ _ _ h
set_option maxRecDepth 100000 in
set_option maxHeartbeats 4000000 in
theorem X8_putLetters_L21_bok {g : Gm} {w : Wd} (C : Cx g w RX8 cX8_putLetters 8 none) {lv : Nat} (hlv : 1 < lv) {N : Nat} {k74 : Nat → Int → Int → Int → Mem → Option Mem} {r21 : Nat → Nat → Int → Int → Int → Int → Int → Mem → Option Mem} {l0 : Nat} {l1 : Nat} {l2 : Int} {l3 : Int} {l4 : Int} {l5 : Int} {l6 : Int} {m : Mem} {out : Mem} (hk74 : ∀ l0 l2 l4 l5 m, k74 l0 l2 l4 l5 m = some out → Jd g w 8 (rmL lv 0 0) (Qm g w none out) 74 [some (vR l0), none, some (vI l2), none, some (vI l4), some (vI l5), none, none] [] 312 m 0 0) (hr21 : ∀ l0 l1 l2 l3 l4 l5 l6 m, r21 l0 l1 l2 l3 l4 l5 l6 m = some out → Jd g w 8 (rmL lv 0 0) (Qm g w none out) 21 [some (vR l0), some (vR l1), some (vI l2), some (vI l3), some (vI l4), some (vI l5), some (vI l6), none] [] 312 m 0 0) (h : X8_putLetters_L21_b N k74 r21 l0 l1 l2 l3 l4 l5 l6 m = some out) : Jd g w 8 (rmL lv 0 0) (Qm g w none out) 21 [some (vR l0), some (vR l1), some (vI l2), some (vI l3), some (vI l4), some (vI l5), some (vI l6), none] [] 312 m 0 0 := by
  unfold X8_putLetters_L21_b at h
  refine j_iload C dX8_putLetters_21 rfl ?_
  refine j_iload_n C dX8_putLetters_23 rfl ?_
  refine j_icmp_ge C 74 dX8_putLetters_24 rfl h (fun c5 h => ?_) (fun c5 h => ?_)
  · refine j_mask [true, false, true, false, true, true, false, false] (ls' := [some (vR _), none, some (vI _), none, some (vI _), some (vI _), none, none]) rfl ?_
    exact hk74 _ _ _ _ _ h
  · refine j_iload C dX8_putLetters_27 rfl ?_
    refine j_if_eq C 74 dX8_putLetters_29 rfl h (fun c4 h => ?_) (fun c4 h => ?_)
    · refine j_mask [true, false, true, false, true, true, false, false] (ls' := [some (vR _), none, some (vI _), none, some (vI _), some (vI _), none, none]) rfl ?_
      exact hk74 _ _ _ _ _ h
    · refine j_aload_n C dX8_putLetters_32 rfl ?_
      refine j_iload C dX8_putLetters_33 rfl ?_
      refine j_iald C dX8_putLetters_35 rfl h (fun t1 h => ?_)
      obtain ⟨p2, ep2, h⟩ := bind_some h
      have qp2 := X8_skyOf_ct ep2
      refine j_cSI C dX8_putLetters_36 sl_X8_75 qp2 (by omega) rfl rfl (Nat.le_of_ble_eq_true rfl) ?_
      refine j_istore (ls' := [some (vR _), some (vR _), some (vI _), some (vI _), some (vI _), some (vI _), some (vI _), some (vI _)]) C dX8_putLetters_39 (by decide) rfl ?_
      refine j_iload C dX8_putLetters_41 rfl ?_
      refine j_iconst C dX8_putLetters_43 rfl ?_
      refine j_icmp_eq C 51 dX8_putLetters_44 rfl h (fun c3 h => ?_) (fun c3 h => ?_)
      · refine j_iconst C dX8_putLetters_51 rfl ?_
        refine j_mask [true, true, true, true, true, false, true, true] (ls' := [some (vR _), some (vR _), some (vI _), some (vI _), some (vI _), none, some (vI _), some (vI _)]) rfl ?_
        exact X8_putLetters_J52_ok C hlv hr21 h
      · refine j_iconst C dX8_putLetters_47 rfl ?_
        refine j_goto C 52 dX8_putLetters_48 rfl ?_
        refine j_mask [true, true, true, true, true, false, true, true] (ls' := [some (vR _), some (vR _), some (vI _), some (vI _), some (vI _), none, some (vI _), some (vI _)]) rfl ?_
        exact X8_putLetters_J52_ok C hlv hr21 h
set_option maxRecDepth 100000 in
set_option maxHeartbeats 4000000 in
theorem X8_putLetters_L21_ok {g : Gm} {w : Wd} (C : Cx g w RX8 cX8_putLetters 8 none) {lv : Nat} (hlv : 1 < lv) {N : Nat} {k74 : Nat → Int → Int → Int → Mem → Option Mem} {out : Mem} (hk74 : ∀ l0 l2 l4 l5 m, k74 l0 l2 l4 l5 m = some out → Jd g w 8 (rmL lv 0 0) (Qm g w none out) 74 [some (vR l0), none, some (vI l2), none, some (vI l4), some (vI l5), none, none] [] 312 m 0 0) (f : Nat) : ∀ {l0 : Nat} {l1 : Nat} {l2 : Int} {l3 : Int} {l4 : Int} {l5 : Int} {l6 : Int} {m : Mem}, X8_putLetters_L21 N k74 f l0 l1 l2 l3 l4 l5 l6 m = some out → Jd g w 8 (rmL lv 0 0) (Qm g w none out) 21 [some (vR l0), some (vR l1), some (vI l2), some (vI l3), some (vI l4), some (vI l5), some (vI l6), none] [] 312 m 0 0 := by
  induction f with
  | zero => intro l0 l1 l2 l3 l4 l5 l6 m h; exact none_ne (α := Mem) h
  | succ f ih => intro l0 l1 l2 l3 l4 l5 l6 m h; exact X8_putLetters_L21_bok C hlv hk74 (fun l0 l1 l2 l3 l4 l5 l6 m h => ih h) h
set_option maxRecDepth 100000 in
set_option maxHeartbeats 4000000 in
theorem X8_putLetters_J98_ok {g : Gm} {w : Wd} (C : Cx g w RX8 cX8_putLetters 8 none) {lv : Nat} (hlv : 1 < lv) {N : Nat} {s0 : Nat} {s1 : Int} {s2 : Int} {s3 : Int} {m : Mem} {out : Mem} (h : X8_putLetters_J98 N s0 s1 s2 s3 m = some out) : Jd g w 8 (rmL lv 0 0) (Qm g w none out) 98 [none, none, none, none, none, none, none, none] [vI s3, vI s2, vI s1, vR s0] 312 m 0 0 := by
  unfold X8_putLetters_J98 at h
  obtain ⟨p11, ep11, h⟩ := bind_some h
  have qp11 := X8_put_ct ep11
  refine j_cVV C dX8_putLetters_98 vl_X8_55 CF8 rfl qp11.1 qp11.2 (by omega) rfl rfl (Nat.le_of_ble_eq_true rfl) ?_
  have e := Option.some.inj h
  subst e
  exact j_rv C dX8_putLetters_101 rfl rfl
set_option maxRecDepth 100000 in
set_option maxHeartbeats 4000000 in
theorem X8_putLetters_J86_ok {g : Gm} {w : Wd} (C : Cx g w RX8 cX8_putLetters 8 none) {lv : Nat} (hlv : 1 < lv) {N : Nat} {l2 : Int} {l4 : Int} {l5 : Int} {s0 : Nat} {s1 : Int} {m : Mem} {out : Mem} (h : X8_putLetters_J86 N l2 l4 l5 s0 s1 m = some out) : Jd g w 8 (rmL lv 0 0) (Qm g w none out) 86 [none, none, some (vI l2), none, some (vI l4), some (vI l5), none, none] [vI s1, vR s0] 312 m 0 0 := by
  unfold X8_putLetters_J86 at h
  refine j_iload_n C dX8_putLetters_86 rfl ?_
  refine j_iload C dX8_putLetters_87 rfl ?_
  refine j_if_eq C 97 dX8_putLetters_89 rfl h (fun c12 h => ?_) (fun c12 h => ?_)
  · refine j_iload_n C dX8_putLetters_97 rfl ?_
    refine j_mask [false, false, false, false, false, false, false, false] (ls' := [none, none, none, none, none, none, none, none]) rfl ?_
    exact X8_putLetters_J98_ok C hlv h
  · refine j_iload C dX8_putLetters_92 rfl ?_
    refine j_goto C 98 dX8_putLetters_94 rfl ?_
    refine j_mask [false, false, false, false, false, false, false, false] (ls' := [none, none, none, none, none, none, none, none]) rfl ?_
    exact X8_putLetters_J98_ok C hlv h
set_option maxRecDepth 100000 in
set_option maxHeartbeats 4000000 in
theorem X8_putLetters_J16_ok {g : Gm} {w : Wd} (C : Cx g w RX8 cX8_putLetters 8 none) {lv : Nat} (hlv : 1 < lv) {N : Nat} {l0 : Nat} {l1 : Nat} {l2 : Int} {l3 : Int} {l4 : Int} {s0 : Int} {m : Mem} {out : Mem} (h : X8_putLetters_J16 N l0 l1 l2 l3 l4 s0 m = some out) : Jd g w 8 (rmL lv 0 0) (Qm g w none out) 16 [some (vR l0), some (vR l1), some (vI l2), some (vI l3), some (vI l4), none, none, none] [vI s0] 312 m 0 0 := by
  unfold X8_putLetters_J16 at h
  refine j_istore (ls' := [some (vR _), some (vR _), some (vI _), some (vI _), some (vI _), some (vI _), none, none]) C dX8_putLetters_16 (by decide) rfl ?_
  refine j_iload_n C dX8_putLetters_18 rfl ?_
  refine j_istore (ls' := [some (vR _), some (vR _), some (vI _), some (vI _), some (vI _), some (vI _), some (vI _), none]) C dX8_putLetters_19 (by decide) rfl ?_
  refine X8_putLetters_L21_ok C hlv (fun z6 z7 z8 z9 m10 h => ?_) N h
  refine j_aload_n C dX8_putLetters_74 rfl ?_
  refine j_iload C dX8_putLetters_75 rfl ?_
  refine j_if_eq C 84 dX8_putLetters_77 rfl h (fun c13 h => ?_) (fun c13 h => ?_)
  · refine j_bipush C dX8_putLetters_84 rfl ?_
    refine j_mask [false, false, true, false, true, true, false, false] (ls' := [none, none, some (vI _), none, some (vI _), some (vI _), none, none]) rfl ?_
    exact X8_putLetters_J86_ok C hlv h
  · refine j_iconst C dX8_putLetters_80 rfl ?_
    refine j_goto C 86 dX8_putLetters_81 rfl ?_
    refine j_mask [false, false, true, false, true, true, false, false] (ls' := [none, none, some (vI _), none, some (vI _), some (vI _), none, none]) rfl ?_
    exact X8_putLetters_J86_ok C hlv h
set_option maxRecDepth 100000 in
set_option maxHeartbeats 4000000 in
theorem X8_putLetters_ct {N : Nat} {l0 : Nat} {l1 : Nat} {l2 : Int} {l3 : Int} {m : Mem} {out : Mem} (h : X8_putLetters N l0 l1 l2 l3 m = some out) : shK l0 = 8 + 10 ∧ CT yX8_putLetters cX8_putLetters 8 none 2 0 0 [vR l0, vR l1, vI l2, vI l3] 312 m none 312 out := by
  unfold X8_putLetters at h
  obtain ⟨hK, h⟩ := ite_some h
  have hlv : 1 < 2 := by decide
  refine ⟨hK, CT.of (by decide +kernel) rfl (Nat.le_of_ble_eq_true rfl) (ls := [some (vR l0), some (vR l1), some (vI l2), some (vI l3), none, none, none, none]) rfl fun g w C _ => ?_⟩
  refine j_iconst C dX8_putLetters_0 rfl ?_
  refine j_istore (ls' := [some (vR _), some (vR _), some (vI _), some (vI _), some (vI _), none, none, none]) C dX8_putLetters_1 (by decide) rfl ?_
  refine j_iload_n C dX8_putLetters_3 rfl ?_
  refine j_iload_n C dX8_putLetters_4 rfl ?_
  refine j_isub C dX8_putLetters_5 ?_
  refine j_bipush C dX8_putLetters_6 rfl ?_
  refine j_icmp_gt C 15 dX8_putLetters_8 rfl h (fun c14 h => ?_) (fun c14 h => ?_)
  · refine j_iconst C dX8_putLetters_15 rfl ?_
    exact X8_putLetters_J16_ok C hlv h
  · refine j_iconst C dX8_putLetters_11 rfl ?_
    refine j_goto C 16 dX8_putLetters_12 rfl ?_
    exact X8_putLetters_J16_ok C hlv h
theorem dX8_numberOf_0 : decode cX8_numberOf 0 = .ok (.iload_n 0, 1) := by decide +kernel
theorem dX8_numberOf_1 : decode cX8_numberOf 1 = .ok (.bipush 97, 2) := by decide +kernel
theorem dX8_numberOf_3 : decode cX8_numberOf 3 = .ok (.isub, 1) := by decide +kernel
theorem dX8_numberOf_4 : decode cX8_numberOf 4 = .ok (.iconst 1, 1) := by decide +kernel
theorem dX8_numberOf_5 : decode cX8_numberOf 5 = .ok (.iadd, 1) := by decide +kernel
theorem dX8_numberOf_6 : decode cX8_numberOf 6 = .ok (.ireturn, 1) := by decide +kernel
set_option maxRecDepth 100000 in
set_option maxHeartbeats 4000000 in
theorem X8_numberOf_ct {l0 : Int} {m : Mem} {out : Int} (h : X8_numberOf l0 m = some out) : CT yX8_numberOf cX8_numberOf 1 (some .int) 1 0 0 [vI l0] 312 m (some (vI out)) 312 m := by
  unfold X8_numberOf at h
  have hlv : 0 < 1 := by decide
  refine CT.of (by decide +kernel) rfl (Nat.le_of_ble_eq_true rfl) (ls := [some (vI l0)]) rfl fun g w C _ => ?_
  refine j_iload_n C dX8_numberOf_0 rfl ?_
  refine j_bipush C dX8_numberOf_1 rfl ?_
  refine j_isub C dX8_numberOf_3 ?_
  refine j_iconst C dX8_numberOf_4 rfl ?_
  refine j_iadd C dX8_numberOf_5 ?_
  exact j_ri C dX8_numberOf_6 rfl (Option.some.inj h).symm rfl
theorem dX8_ownWord_0 : decode cX8_ownWord 0 = .ok (.iconst 0, 1) := by decide +kernel
theorem dX8_ownWord_1 : decode cX8_ownWord 1 = .ok (.istore_n 3, 1) := by decide +kernel
theorem dX8_ownWord_2 : decode cX8_ownWord 2 = .ok (.iload_n 3, 1) := by decide +kernel
theorem dX8_ownWord_3 : decode cX8_ownWord 3 = .ok (.bipush 27, 2) := by decide +kernel
theorem dX8_ownWord_5 : decode cX8_ownWord 5 = .ok (.if_icmp .ge 22, 3) := by decide +kernel
theorem dX8_ownWord_8 : decode cX8_ownWord 8 = .ok (.aload_n 0, 1) := by decide +kernel
theorem dX8_ownWord_9 : decode cX8_ownWord 9 = .ok (.getfield 11, 3) := by decide +kernel
theorem dX8_ownWord_12 : decode cX8_ownWord 12 = .ok (.iload_n 3, 1) := by decide +kernel
theorem dX8_ownWord_13 : decode cX8_ownWord 13 = .ok (.laload, 1) := by decide +kernel
theorem dX8_ownWord_14 : decode cX8_ownWord 14 = .ok (.lload_n 1, 1) := by decide +kernel
theorem dX8_ownWord_15 : decode cX8_ownWord 15 = .ok (.lcmp, 1) := by decide +kernel
theorem dX8_ownWord_16 : decode cX8_ownWord 16 = .ok (.ifCond .ne 5, 3) := by decide +kernel
theorem dX8_ownWord_19 : decode cX8_ownWord 19 = .ok (.iload_n 3, 1) := by decide +kernel
theorem dX8_ownWord_20 : decode cX8_ownWord 20 = .ok (.ireturn, 1) := by decide +kernel
theorem dX8_ownWord_21 : decode cX8_ownWord 21 = .ok (.iinc 3 1, 3) := by decide +kernel
theorem dX8_ownWord_24 : decode cX8_ownWord 24 = .ok (.goto (-22), 3) := by decide +kernel
theorem dX8_ownWord_27 : decode cX8_ownWord 27 = .ok (.iconst (-1), 1) := by decide +kernel
theorem dX8_ownWord_28 : decode cX8_ownWord 28 = .ok (.ireturn, 1) := by decide +kernel
set_option maxRecDepth 100000 in
set_option maxHeartbeats 4000000 in
theorem X8_ownWord_L2_bok {g : Gm} {w : Wd} (C : Cx g w RX8 cX8_ownWord 4 (some .int)) {lv : Nat} (hlv : 0 < lv) {N : Nat} {r2 : Nat → Int → Int → Option Int} {l0 : Nat} {l1 : Int} {l3 : Int} {m : Mem} {out : Int} (hr2 : ∀ l0 l1 l3, r2 l0 l1 l3 = some out → Jd g w 4 (rmL lv 0 0) (Qm g w (some (vI out)) m) 2 [some (vR l0), some (vL l1), none, some (vI l3)] [] 312 m 0 0) (h : X8_ownWord_L2_b N m r2 l0 l1 l3 = some out) : Jd g w 4 (rmL lv 0 0) (Qm g w (some (vI out)) m) 2 [some (vR l0), some (vL l1), none, some (vI l3)] [] 312 m 0 0 := by
  unfold X8_ownWord_L2_b at h
  refine j_iload_n C dX8_ownWord_2 rfl ?_
  refine j_bipush C dX8_ownWord_3 rfl ?_
  refine j_icmp_ge C 27 dX8_ownWord_5 rfl h (fun c4 h => ?_) (fun c4 h => ?_)
  · refine j_iconst C dX8_ownWord_27 rfl ?_
    exact j_ri C dX8_ownWord_28 rfl (Option.some.inj h).symm rfl
  · refine j_aload_n C dX8_ownWord_8 rfl ?_
    refine j_getR C dX8_ownWord_9 CF8 (by decide) fl_X8_11 rfl rfl h (fun t1 h => ?_)
    refine j_iload_n C dX8_ownWord_12 rfl ?_
    refine j_lald C dX8_ownWord_13 rfl h (fun t2 h => ?_)
    refine j_lload_n C dX8_ownWord_14 rfl ?_
    refine j_lcmp C dX8_ownWord_15 ?_
    refine j_if_ne C 21 dX8_ownWord_16 rfl h (fun c3 h => ?_) (fun c3 h => ?_)
    · refine j_iinc (ls' := [some (vR _), some (vL _), none, some (vI _)]) C dX8_ownWord_21 rfl (by decide) rfl ?_
      refine j_goto C 2 dX8_ownWord_24 rfl ?_
      exact hr2 _ _ _ h
    · refine j_iload_n C dX8_ownWord_19 rfl ?_
      exact j_ri C dX8_ownWord_20 rfl (Option.some.inj h).symm rfl
set_option maxRecDepth 100000 in
set_option maxHeartbeats 4000000 in
theorem X8_ownWord_L2_ok {g : Gm} {w : Wd} (C : Cx g w RX8 cX8_ownWord 4 (some .int)) {lv : Nat} (hlv : 0 < lv) {N : Nat} {m : Mem} {out : Int} (f : Nat) : ∀ {l0 : Nat} {l1 : Int} {l3 : Int}, X8_ownWord_L2 N m f l0 l1 l3 = some out → Jd g w 4 (rmL lv 0 0) (Qm g w (some (vI out)) m) 2 [some (vR l0), some (vL l1), none, some (vI l3)] [] 312 m 0 0 := by
  induction f with
  | zero => intro l0 l1 l3 h; exact none_ne (α := Int) h
  | succ f ih => intro l0 l1 l3 h; exact X8_ownWord_L2_bok C hlv (fun l0 l1 l3 h => ih h) h
set_option maxRecDepth 100000 in
set_option maxHeartbeats 4000000 in
theorem X8_ownWord_ct {N : Nat} {l0 : Nat} {l1 : Int} {m : Mem} {out : Int} (h : X8_ownWord N l0 l1 m = some out) : shK l0 = 8 + 10 ∧ CT yX8_ownWord cX8_ownWord 4 (some .int) 1 0 0 [vR l0, vL l1] 312 m (some (vI out)) 312 m := by
  unfold X8_ownWord at h
  obtain ⟨hK, h⟩ := ite_some h
  have hlv : 0 < 1 := by decide
  refine ⟨hK, CT.of (by decide +kernel) rfl (Nat.le_of_ble_eq_true rfl) (ls := [some (vR l0), some (vL l1), none, none]) rfl fun g w C _ => ?_⟩
  refine j_iconst C dX8_ownWord_0 rfl ?_
  refine j_istore_n (ls' := [some (vR _), some (vL _), none, some (vI _)]) C dX8_ownWord_1 (by decide) rfl ?_
  exact X8_ownWord_L2_ok C hlv N h
theorem dX8_putWord_0 : decode cX8_putWord 0 = .ok (.lconst 0, 1) := by decide +kernel
theorem dX8_putWord_1 : decode cX8_putWord 1 = .ok (.lstore 4, 2) := by decide +kernel
theorem dX8_putWord_3 : decode cX8_putWord 3 = .ok (.iconst 0, 1) := by decide +kernel
theorem dX8_putWord_4 : decode cX8_putWord 4 = .ok (.istore 6, 2) := by decide +kernel
theorem dX8_putWord_6 : decode cX8_putWord 6 = .ok (.iload 6, 2) := by decide +kernel
theorem dX8_putWord_8 : decode cX8_putWord 8 = .ok (.bipush 7, 2) := by decide +kernel
theorem dX8_putWord_10 : decode cX8_putWord 10 = .ok (.if_icmp .ge 40, 3) := by decide +kernel
theorem dX8_putWord_13 : decode cX8_putWord 13 = .ok (.lload 4, 2) := by decide +kernel
theorem dX8_putWord_15 : decode cX8_putWord 15 = .ok (.ldc2_w 41, 3) := by decide +kernel
theorem dX8_putWord_18 : decode cX8_putWord 18 = .ok (.lmul, 1) := by decide +kernel
theorem dX8_putWord_19 : decode cX8_putWord 19 = .ok (.iload_n 2, 1) := by decide +kernel
theorem dX8_putWord_20 : decode cX8_putWord 20 = .ok (.iload 6, 2) := by decide +kernel
theorem dX8_putWord_22 : decode cX8_putWord 22 = .ok (.iadd, 1) := by decide +kernel
theorem dX8_putWord_23 : decode cX8_putWord 23 = .ok (.iload_n 3, 1) := by decide +kernel
theorem dX8_putWord_24 : decode cX8_putWord 24 = .ok (.if_icmp .ge 15, 3) := by decide +kernel
theorem dX8_putWord_27 : decode cX8_putWord 27 = .ok (.aload_n 1, 1) := by decide +kernel
theorem dX8_putWord_28 : decode cX8_putWord 28 = .ok (.iload_n 2, 1) := by decide +kernel
theorem dX8_putWord_29 : decode cX8_putWord 29 = .ok (.iload 6, 2) := by decide +kernel
theorem dX8_putWord_31 : decode cX8_putWord 31 = .ok (.iadd, 1) := by decide +kernel
theorem dX8_putWord_32 : decode cX8_putWord 32 = .ok (.iaload, 1) := by decide +kernel
theorem dX8_putWord_33 : decode cX8_putWord 33 = .ok (.invokestatic 43, 3) := by decide +kernel
theorem dX8_putWord_36 : decode cX8_putWord 36 = .ok (.goto 4, 3) := by decide +kernel
theorem dX8_putWord_39 : decode cX8_putWord 39 = .ok (.iconst 0, 1) := by decide +kernel
theorem dX8_putWord_40 : decode cX8_putWord 40 = .ok (.i2l, 1) := by decide +kernel
theorem dX8_putWord_41 : decode cX8_putWord 41 = .ok (.ladd, 1) := by decide +kernel
theorem dX8_putWord_42 : decode cX8_putWord 42 = .ok (.lstore 4, 2) := by decide +kernel
theorem dX8_putWord_44 : decode cX8_putWord 44 = .ok (.iinc 6 1, 3) := by decide +kernel
theorem dX8_putWord_47 : decode cX8_putWord 47 = .ok (.goto (-41), 3) := by decide +kernel
theorem dX8_putWord_50 : decode cX8_putWord 50 = .ok (.iload_n 3, 1) := by decide +kernel
theorem dX8_putWord_51 : decode cX8_putWord 51 = .ok (.iload_n 2, 1) := by decide +kernel
theorem dX8_putWord_52 : decode cX8_putWord 52 = .ok (.isub, 1) := by decide +kernel
theorem dX8_putWord_53 : decode cX8_putWord 53 = .ok (.bipush 7, 2) := by decide +kernel
theorem dX8_putWord_55 : decode cX8_putWord 55 = .ok (.if_icmp .gt 12, 3) := by decide +kernel
theorem dX8_putWord_58 : decode cX8_putWord 58 = .ok (.aload_n 0, 1) := by decide +kernel
theorem dX8_putWord_59 : decode cX8_putWord 59 = .ok (.lload 4, 2) := by decide +kernel
theorem dX8_putWord_61 : decode cX8_putWord 61 = .ok (.invokevirtual 78, 3) := by decide +kernel
theorem dX8_putWord_64 : decode cX8_putWord 64 = .ok (.goto 4, 3) := by decide +kernel
theorem dX8_putWord_67 : decode cX8_putWord 67 = .ok (.iconst (-1), 1) := by decide +kernel
theorem dX8_putWord_68 : decode cX8_putWord 68 = .ok (.istore 6, 2) := by decide +kernel
theorem dX8_putWord_70 : decode cX8_putWord 70 = .ok (.iload 6, 2) := by decide +kernel
theorem dX8_putWord_72 : decode cX8_putWord 72 = .ok (.iconst (-1), 1) := by decide +kernel
theorem dX8_putWord_73 : decode cX8_putWord 73 = .ok (.if_icmp .eq 14, 3) := by decide +kernel
theorem dX8_putWord_76 : decode cX8_putWord 76 = .ok (.aload_n 0, 1) := by decide +kernel
theorem dX8_putWord_77 : decode cX8_putWord 77 = .ok (.iconst 2, 1) := by decide +kernel
theorem dX8_putWord_78 : decode cX8_putWord 78 = .ok (.iload_n 2, 1) := by decide +kernel
theorem dX8_putWord_79 : decode cX8_putWord 79 = .ok (.iload 6, 2) := by decide +kernel
theorem dX8_putWord_81 : decode cX8_putWord 81 = .ok (.invokevirtual 55, 3) := by decide +kernel
theorem dX8_putWord_84 : decode cX8_putWord 84 = .ok (.goto 36, 3) := by decide +kernel
theorem dX8_putWord_87 : decode cX8_putWord 87 = .ok (.iload_n 3, 1) := by decide +kernel
theorem dX8_putWord_88 : decode cX8_putWord 88 = .ok (.iload_n 2, 1) := by decide +kernel
theorem dX8_putWord_89 : decode cX8_putWord 89 = .ok (.isub, 1) := by decide +kernel
theorem dX8_putWord_90 : decode cX8_putWord 90 = .ok (.bipush 6, 2) := by decide +kernel
theorem dX8_putWord_92 : decode cX8_putWord 92 = .ok (.if_icmp .gt 17, 3) := by decide +kernel
theorem dX8_putWord_95 : decode cX8_putWord 95 = .ok (.aload_n 0, 1) := by decide +kernel
theorem dX8_putWord_96 : decode cX8_putWord 96 = .ok (.iconst 3, 1) := by decide +kernel
theorem dX8_putWord_97 : decode cX8_putWord 97 = .ok (.iload_n 2, 1) := by decide +kernel
theorem dX8_putWord_98 : decode cX8_putWord 98 = .ok (.lload 4, 2) := by decide +kernel
theorem dX8_putWord_100 : decode cX8_putWord 100 = .ok (.iconst 5, 1) := by decide +kernel
theorem dX8_putWord_101 : decode cX8_putWord 101 = .ok (.lshr, 1) := by decide +kernel
theorem dX8_putWord_102 : decode cX8_putWord 102 = .ok (.l2i, 1) := by decide +kernel
theorem dX8_putWord_103 : decode cX8_putWord 103 = .ok (.invokevirtual 55, 3) := by decide +kernel
theorem dX8_putWord_106 : decode cX8_putWord 106 = .ok (.goto 14, 3) := by decide +kernel
theorem dX8_putWord_109 : decode cX8_putWord 109 = .ok (.aload_n 0, 1) := by decide +kernel
theorem dX8_putWord_110 : decode cX8_putWord 110 = .ok (.bipush 6, 2) := by decide +kernel
theorem dX8_putWord_112 : decode cX8_putWord 112 = .ok (.iload_n 2, 1) := by decide +kernel
theorem dX8_putWord_113 : decode cX8_putWord 113 = .ok (.iload_n 2, 1) := by decide +kernel
theorem dX8_putWord_114 : decode cX8_putWord 114 = .ok (.bipush 6, 2) := by decide +kernel
theorem dX8_putWord_116 : decode cX8_putWord 116 = .ok (.iadd, 1) := by decide +kernel
theorem dX8_putWord_117 : decode cX8_putWord 117 = .ok (.invokevirtual 55, 3) := by decide +kernel
theorem dX8_putWord_120 : decode cX8_putWord 120 = .ok (.return_, 1) := by decide +kernel
set_option maxRecDepth 100000 in
set_option maxHeartbeats 4000000 in
theorem X8_putWord_J40_ok {g : Gm} {w : Wd} (C : Cx g w RX8 cX8_putWord 7 none) {lv : Nat} (hlv : 1 < lv) {N : Nat} {r6 : Nat → Nat → Int → Int → Int → Int → Mem → Option Mem } {l0 : Nat} {l1 : Nat} {l2 : Int} {l3 : Int} {l6 : Int} {s0 : Int} {s1 : Int} {m : Mem} {out : Mem} (hr6 : ∀ l0 l1 l2 l3 l4 l6 m, r6 l0 l1 l2 l3 l4 l6 m = some out → Jd g w 7 (rmL lv 0 0) (Qm g w none out) 6 [some (vR l0), some (vR l1), some (vI l2), some (vI l3), some (vL l4), none, some (vI l6)] [] 312 m 0 0) (h : X8_putWord_J40 N r6 l0 l1 l2 l3 l6 s0 s1 m = some out) : Jd g w 7 (rmL lv 0 0) (Qm g w none out) 40 [some (vR l0), some (vR l1), some (vI l2), some (vI l3), none, none, some (vI l6)] [vI s1, vL s0] 312 m 0 0 := by
  unfold X8_putWord_J40 at h
  refine j_i2l C dX8_putWord_40 ?_
  refine j_ladd C dX8_putWord_41 ?_
  refine j_lstore (ls' := [some (vR _), some (vR _), some (vI _), some (vI _), some (vL _), none, some (vI _)]) C dX8_putWord_42 (by decide) rfl ?_
  refine j_iinc (ls' := [some (vR _), some (vR _), some (vI _), some (vI _), some (vL _), none, some (vI _)]) C dX8_putWord_44 rfl (by decide) rfl ?_
  refine j_goto C 6 dX8_putWord_47 rfl ?_
  exact hr6 _ _ _ _ _ _ _ h
set_option maxRecDepth 100000 in
set_option maxHeartbeats 4000000 in
theorem X8_putWord_L6_bok {g : Gm} {w : Wd} (C : Cx g w RX8 cX8_putWord 7 none) {lv : Nat} (hlv : 1 < lv) {N : Nat} {k50 : Nat → Int → Int → Int → Mem → Option Mem} {r6 : Nat → Nat → Int → Int → Int → Int → Mem → Option Mem} {l0 : Nat} {l1 : Nat} {l2 : Int} {l3 : Int} {l4 : Int} {l6 : Int} {m : Mem} {out : Mem} (hk50 : ∀ l0 l2 l3 l4 m, k50 l0 l2 l3 l4 m = some out → Jd g w 7 (rmL lv 0 0) (Qm g w none out) 50 [some (vR l0), none, some (vI l2), some (vI l3), some (vL l4), none, none] [] 312 m 0 0) (hr6 : ∀ l0 l1 l2 l3 l4 l6 m, r6 l0 l1 l2 l3 l4 l6 m = some out → Jd g w 7 (rmL lv 0 0) (Qm g w none out) 6 [some (vR l0), some (vR l1), some (vI l2), some (vI l3), some (vL l4), none, some (vI l6)] [] 312 m 0 0) (h : X8_putWord_L6_b N k50 r6 l0 l1 l2 l3 l4 l6 m = some out) : Jd g w 7 (rmL lv 0 0) (Qm g w none out) 6 [some (vR l0), some (vR l1), some (vI l2), some (vI l3), some (vL l4), none, some (vI l6)] [] 312 m 0 0 := by
  unfold X8_putWord_L6_b at h
  refine j_iload C dX8_putWord_6 rfl ?_
  refine j_bipush C dX8_putWord_8 rfl ?_
  refine j_icmp_ge C 50 dX8_putWord_10 rfl h (fun c4 h => ?_) (fun c4 h => ?_)
  · refine j_mask [true, false, true, true, true, false, false] (ls' := [some (vR _), none, some (vI _), some (vI _), some (vL _), none, none]) rfl ?_
    exact hk50 _ _ _ _ _ h
  · refine j_lload C dX8_putWord_13 rfl ?_
    refine j_ldc2 (v := 32) C dX8_putWord_15 k_X8_41 rfl rfl ?_
    refine j_lmul C dX8_putWord_18 ?_
    refine j_iload_n C dX8_putWord_19 rfl ?_
    refine j_iload C dX8_putWord_20 rfl ?_
    refine j_iadd C dX8_putWord_22 ?_
    refine j_iload_n C dX8_putWord_23 rfl ?_
    refine j_icmp_ge C 39 dX8_putWord_24 rfl h (fun c3 h => ?_) (fun c3 h => ?_)
    · refine j_iconst C dX8_putWord_39 rfl ?_
      refine j_mask [true, true, true, true, false, false, true] (ls' := [some (vR _), some (vR _), some (vI _), some (vI _), none, none, some (vI _)]) rfl ?_
      exact X8_putWord_J40_ok C hlv hr6 h
    · refine j_aload_n C dX8_putWord_27 rfl ?_
      refine j_iload_n C dX8_putWord_28 rfl ?_
      refine j_iload C dX8_putWord_29 rfl ?_
      refine j_iadd C dX8_putWord_31 ?_
      refine j_iald C dX8_putWord_32 rfl h (fun t1 h => ?_)
      obtain ⟨p2, ep2, h⟩ := bind_some h
      have qp2 := X8_numberOf_ct ep2
      refine j_cSI C dX8_putWord_33 sl_X8_43 qp2 (by omega) rfl rfl (Nat.le_of_ble_eq_true rfl) ?_
      refine j_goto C 40 dX8_putWord_36 rfl ?_
      refine j_mask [true, true, true, true, false, false, true] (ls' := [some (vR _), some (vR _), some (vI _), some (vI _), none, none, some (vI _)]) rfl ?_
      exact X8_putWord_J40_ok C hlv hr6 h
set_option maxRecDepth 100000 in
set_option maxHeartbeats 4000000 in
theorem X8_putWord_L6_ok {g : Gm} {w : Wd} (C : Cx g w RX8 cX8_putWord 7 none) {lv : Nat} (hlv : 1 < lv) {N : Nat} {k50 : Nat → Int → Int → Int → Mem → Option Mem} {out : Mem} (hk50 : ∀ l0 l2 l3 l4 m, k50 l0 l2 l3 l4 m = some out → Jd g w 7 (rmL lv 0 0) (Qm g w none out) 50 [some (vR l0), none, some (vI l2), some (vI l3), some (vL l4), none, none] [] 312 m 0 0) (f : Nat) : ∀ {l0 : Nat} {l1 : Nat} {l2 : Int} {l3 : Int} {l4 : Int} {l6 : Int} {m : Mem}, X8_putWord_L6 N k50 f l0 l1 l2 l3 l4 l6 m = some out → Jd g w 7 (rmL lv 0 0) (Qm g w none out) 6 [some (vR l0), some (vR l1), some (vI l2), some (vI l3), some (vL l4), none, some (vI l6)] [] 312 m 0 0 := by
  induction f with
  | zero => intro l0 l1 l2 l3 l4 l6 m h; exact none_ne (α := Mem) h
  | succ f ih => intro l0 l1 l2 l3 l4 l6 m h; exact X8_putWord_L6_bok C hlv hk50 (fun l0 l1 l2 l3 l4 l6 m h => ih h) h
set_option maxRecDepth 100000 in
set_option maxHeartbeats 4000000 in
theorem X8_putWord_J68_ok {g : Gm} {w : Wd} (C : Cx g w RX8 cX8_putWord 7 none) {lv : Nat} (hlv : 1 < lv) {N : Nat} {l0 : Nat} {l2 : Int} {l3 : Int} {l4 : Int} {s0 : Int} {m : Mem} {out : Mem} (h : X8_putWord_J68 N l0 l2 l3 l4 s0 m = some out) : Jd g w 7 (rmL lv 0 0) (Qm g w none out) 68 [some (vR l0), none, some (vI l2), some (vI l3), some (vL l4), none, none] [vI s0] 312 m 0 0 := by
  unfold X8_putWord_J68 at h
  refine j_istore (ls' := [some (vR _), none, some (vI _), some (vI _), some (vL _), none, some (vI _)]) C dX8_putWord_68 (by decide) rfl ?_
  refine j_iload C dX8_putWord_70 rfl ?_
  refine j_iconst C dX8_putWord_72 rfl ?_
  refine j_icmp_eq C 87 dX8_putWord_73 rfl h (fun c14 h => ?_) (fun c14 h => ?_)
  · refine j_iload_n C dX8_putWord_87 rfl ?_
    refine j_iload_n C dX8_putWord_88 rfl ?_
    refine j_isub C dX8_putWord_89 ?_
    refine j_bipush C dX8_putWord_90 rfl ?_
    refine j_icmp_gt C 109 dX8_putWord_92 rfl h (fun c12 h => ?_) (fun c12 h => ?_)
    · refine j_aload_n C dX8_putWord_109 rfl ?_
      refine j_bipush C dX8_putWord_110 rfl ?_
      refine j_iload_n C dX8_putWord_112 rfl ?_
      refine j_iload_n C dX8_putWord_113 rfl ?_
      refine j_bipush C dX8_putWord_114 rfl ?_
      refine j_iadd C dX8_putWord_116 ?_
      obtain ⟨p10, ep10, h⟩ := bind_some h
      have qp10 := X8_put_ct ep10
      refine j_cVV C dX8_putWord_117 vl_X8_55 CF8 rfl qp10.1 qp10.2 (by omega) rfl rfl (Nat.le_of_ble_eq_true rfl) ?_
      have e := Option.some.inj h
      subst e
      exact j_rv C dX8_putWord_120 rfl rfl
    · refine j_aload_n C dX8_putWord_95 rfl ?_
      refine j_iconst C dX8_putWord_96 rfl ?_
      refine j_iload_n C dX8_putWord_97 rfl ?_
      refine j_lload C dX8_putWord_98 rfl ?_
      refine j_iconst C dX8_putWord_100 rfl ?_
      refine j_lshr C dX8_putWord_101 ?_
      refine j_l2i C dX8_putWord_102 ?_
      obtain ⟨p11, ep11, h⟩ := bind_some h
      have qp11 := X8_put_ct ep11
      refine j_cVV C dX8_putWord_103 vl_X8_55 CF8 rfl qp11.1 qp11.2 (by omega) rfl rfl (Nat.le_of_ble_eq_true rfl) ?_
      refine j_goto C 120 dX8_putWord_106 rfl ?_
      have e := Option.some.inj h
      subst e
      exact j_rv C dX8_putWord_120 rfl rfl
  · refine j_aload_n C dX8_putWord_76 rfl ?_
    refine j_iconst C dX8_putWord_77 rfl ?_
    refine j_iload_n C dX8_putWord_78 rfl ?_
    refine j_iload C dX8_putWord_79 rfl ?_
    obtain ⟨p13, ep13, h⟩ := bind_some h
    have qp13 := X8_put_ct ep13
    refine j_cVV C dX8_putWord_81 vl_X8_55 CF8 rfl qp13.1 qp13.2 (by omega) rfl rfl (Nat.le_of_ble_eq_true rfl) ?_
    refine j_goto C 120 dX8_putWord_84 rfl ?_
    have e := Option.some.inj h
    subst e
    exact j_rv C dX8_putWord_120 rfl rfl
set_option maxRecDepth 100000 in
set_option maxHeartbeats 4000000 in
theorem X8_putWord_ct {N : Nat} {l0 : Nat} {l1 : Nat} {l2 : Int} {l3 : Int} {m : Mem} {out : Mem} (h : X8_putWord N l0 l1 l2 l3 m = some out) : shK l0 = 8 + 10 ∧ CT yX8_putWord cX8_putWord 7 none 2 0 0 [vR l0, vR l1, vI l2, vI l3] 312 m none 312 out := by
  unfold X8_putWord at h
  obtain ⟨hK, h⟩ := ite_some h
  have hlv : 1 < 2 := by decide
  refine ⟨hK, CT.of (by decide +kernel) rfl (Nat.le_of_ble_eq_true rfl) (ls := [some (vR l0), some (vR l1), some (vI l2), some (vI l3), none, none, none]) rfl fun g w C _ => ?_⟩
  refine j_lconst (v := 0) C dX8_putWord_0 rfl rfl ?_
  refine j_lstore (ls' := [some (vR _), some (vR _), some (vI _), some (vI _), some (vL _), none, none]) C dX8_putWord_1 (by decide) rfl ?_
  refine j_iconst C dX8_putWord_3 rfl ?_
  refine j_istore (ls' := [some (vR _), some (vR _), some (vI _), some (vI _), some (vL _), none, some (vI _)]) C dX8_putWord_4 (by decide) rfl ?_
  refine X8_putWord_L6_ok C hlv (fun z5 z6 z7 z8 m9 h => ?_) N h
  refine j_iload_n C dX8_putWord_50 rfl ?_
  refine j_iload_n C dX8_putWord_51 rfl ?_
  refine j_isub C dX8_putWord_52 ?_
  refine j_bipush C dX8_putWord_53 rfl ?_
  refine j_icmp_gt C 67 dX8_putWord_55 rfl h (fun c16 h => ?_) (fun c16 h => ?_)
  · refine j_iconst C dX8_putWord_67 rfl ?_
    exact X8_putWord_J68_ok C hlv h
  · refine j_aload_n C dX8_putWord_58 rfl ?_
    refine j_lload C dX8_putWord_59 rfl ?_
    obtain ⟨p15, ep15, h⟩ := bind_some h
    have qp15 := X8_ownWord_ct ep15
    refine j_cVI C dX8_putWord_61 vl_X8_78 CF8 rfl qp15.1 qp15.2 (by omega) rfl rfl (Nat.le_of_ble_eq_true rfl) ?_
    refine j_goto C 68 dX8_putWord_64 rfl ?_
    exact X8_putWord_J68_ok C hlv h
theorem dX8_putNumber_0 : decode cX8_putNumber 0 = .ok (.iload_n 3, 1) := by decide +kernel
theorem dX8_putNumber_1 : decode cX8_putNumber 1 = .ok (.iload_n 2, 1) := by decide +kernel
theorem dX8_putNumber_2 : decode cX8_putNumber 2 = .ok (.isub, 1) := by decide +kernel
theorem dX8_putNumber_3 : decode cX8_putNumber 3 = .ok (.iconst 4, 1) := by decide +kernel
theorem dX8_putNumber_4 : decode cX8_putNumber 4 = .ok (.if_icmp .le 14, 3) := by decide +kernel
theorem dX8_putNumber_7 : decode cX8_putNumber 7 = .ok (.aload_n 0, 1) := by decide +kernel
theorem dX8_putNumber_8 : decode cX8_putNumber 8 = .ok (.bipush 6, 2) := by decide +kernel
theorem dX8_putNumber_10 : decode cX8_putNumber 10 = .ok (.iload_n 2, 1) := by decide +kernel
theorem dX8_putNumber_11 : decode cX8_putNumber 11 = .ok (.iload_n 2, 1) := by decide +kernel
theorem dX8_putNumber_12 : decode cX8_putNumber 12 = .ok (.iconst 4, 1) := by decide +kernel
theorem dX8_putNumber_13 : decode cX8_putNumber 13 = .ok (.iadd, 1) := by decide +kernel
theorem dX8_putNumber_14 : decode cX8_putNumber 14 = .ok (.invokevirtual 55, 3) := by decide +kernel
theorem dX8_putNumber_17 : decode cX8_putNumber 17 = .ok (.return_, 1) := by decide +kernel
theorem dX8_putNumber_18 : decode cX8_putNumber 18 = .ok (.iconst 0, 1) := by decide +kernel
theorem dX8_putNumber_19 : decode cX8_putNumber 19 = .ok (.istore 4, 2) := by decide +kernel
theorem dX8_putNumber_21 : decode cX8_putNumber 21 = .ok (.iload_n 2, 1) := by decide +kernel
theorem dX8_putNumber_22 : decode cX8_putNumber 22 = .ok (.istore 5, 2) := by decide +kernel
theorem dX8_putNumber_24 : decode cX8_putNumber 24 = .ok (.iload 5, 2) := by decide +kernel
theorem dX8_putNumber_26 : decode cX8_putNumber 26 = .ok (.iload_n 3, 1) := by decide +kernel
theorem dX8_putNumber_27 : decode cX8_putNumber 27 = .ok (.if_icmp .ge 24, 3) := by decide +kernel
theorem dX8_putNumber_30 : decode cX8_putNumber 30 = .ok (.iload 4, 2) := by decide +kernel
theorem dX8_putNumber_32 : decode cX8_putNumber 32 = .ok (.bipush 10, 2) := by decide +kernel
theorem dX8_putNumber_34 : decode cX8_putNumber 34 = .ok (.imul, 1) := by decide +kernel
theorem dX8_putNumber_35 : decode cX8_putNumber 35 = .ok (.aload_n 1, 1) := by decide +kernel
theorem dX8_putNumber_36 : decode cX8_putNumber 36 = .ok (.iload 5, 2) := by decide +kernel
theorem dX8_putNumber_38 : decode cX8_putNumber 38 = .ok (.iaload, 1) := by decide +kernel
theorem dX8_putNumber_39 : decode cX8_putNumber 39 = .ok (.iadd, 1) := by decide +kernel
theorem dX8_putNumber_40 : decode cX8_putNumber 40 = .ok (.bipush 48, 2) := by decide +kernel
theorem dX8_putNumber_42 : decode cX8_putNumber 42 = .ok (.isub, 1) := by decide +kernel
theorem dX8_putNumber_43 : decode cX8_putNumber 43 = .ok (.istore 4, 2) := by decide +kernel
theorem dX8_putNumber_45 : decode cX8_putNumber 45 = .ok (.iinc 5 1, 3) := by decide +kernel
theorem dX8_putNumber_48 : decode cX8_putNumber 48 = .ok (.goto (-24), 3) := by decide +kernel
theorem dX8_putNumber_51 : decode cX8_putNumber 51 = .ok (.aload_n 0, 1) := by decide +kernel
theorem dX8_putNumber_52 : decode cX8_putNumber 52 = .ok (.iconst 1, 1) := by decide +kernel
theorem dX8_putNumber_53 : decode cX8_putNumber 53 = .ok (.iload_n 2, 1) := by decide +kernel
theorem dX8_putNumber_54 : decode cX8_putNumber 54 = .ok (.iload 4, 2) := by decide +kernel
theorem dX8_putNumber_56 : decode cX8_putNumber 56 = .ok (.invokevirtual 55, 3) := by decide +kernel
theorem dX8_putNumber_59 : decode cX8_putNumber 59 = .ok (.return_, 1) := by decide +kernel
set_option maxRecDepth 100000 in
set_option maxHeartbeats 4000000 in
theorem X8_putNumber_L24_bok {g : Gm} {w : Wd} (C : Cx g w RX8 cX8_putNumber 6 none) {lv : Nat} (hlv : 1 < lv) {N : Nat} {k51 : Nat → Int → Int → Mem → Option Mem} {r24 : Nat → Nat → Int → Int → Int → Int → Mem → Option Mem} {l0 : Nat} {l1 : Nat} {l2 : Int} {l3 : Int} {l4 : Int} {l5 : Int} {m : Mem} {out : Mem} (hk51 : ∀ l0 l2 l4 m, k51 l0 l2 l4 m = some out → Jd g w 6 (rmL lv 0 0) (Qm g w none out) 51 [some (vR l0), none, some (vI l2), none, some (vI l4), none] [] 312 m 0 0) (hr24 : ∀ l0 l1 l2 l3 l4 l5 m, r24 l0 l1 l2 l3 l4 l5 m = some out → Jd g w 6 (rmL lv 0 0) (Qm g w none out) 24 [some (vR l0), some (vR l1), some (vI l2), some (vI l3), some (vI l4), some (vI l5)] [] 312 m 0 0) (h : X8_putNumber_L24_b N k51 r24 l0 l1 l2 l3 l4 l5 m = some out) : Jd g w 6 (rmL lv 0 0) (Qm g w none out) 24 [some (vR l0), some (vR l1), some (vI l2), some (vI l3), some (vI l4), some (vI l5)] [] 312 m 0 0 := by
  unfold X8_putNumber_L24_b at h
  refine j_iload C dX8_putNumber_24 rfl ?_
  refine j_iload_n C dX8_putNumber_26 rfl ?_
  refine j_icmp_ge C 51 dX8_putNumber_27 rfl h (fun c2 h => ?_) (fun c2 h => ?_)
  · refine j_mask [true, false, true, false, true, false] (ls' := [some (vR _), none, some (vI _), none, some (vI _), none]) rfl ?_
    exact hk51 _ _ _ _ h
  · refine j_iload C dX8_putNumber_30 rfl ?_
    refine j_bipush C dX8_putNumber_32 rfl ?_
    refine j_imul C dX8_putNumber_34 ?_
    refine j_aload_n C dX8_putNumber_35 rfl ?_
    refine j_iload C dX8_putNumber_36 rfl ?_
    refine j_iald C dX8_putNumber_38 rfl h (fun t1 h => ?_)
    refine j_iadd C dX8_putNumber_39 ?_
    refine j_bipush C dX8_putNumber_40 rfl ?_
    refine j_isub C dX8_putNumber_42 ?_
    refine j_istore (ls' := [some (vR _), some (vR _), some (vI _), some (vI _), some (vI _), some (vI _)]) C dX8_putNumber_43 (by decide) rfl ?_
    refine j_iinc (ls' := [some (vR _), some (vR _), some (vI _), some (vI _), some (vI _), some (vI _)]) C dX8_putNumber_45 rfl (by decide) rfl ?_
    refine j_goto C 24 dX8_putNumber_48 rfl ?_
    exact hr24 _ _ _ _ _ _ _ h
set_option maxRecDepth 100000 in
set_option maxHeartbeats 4000000 in
theorem X8_putNumber_L24_ok {g : Gm} {w : Wd} (C : Cx g w RX8 cX8_putNumber 6 none) {lv : Nat} (hlv : 1 < lv) {N : Nat} {k51 : Nat → Int → Int → Mem → Option Mem} {out : Mem} (hk51 : ∀ l0 l2 l4 m, k51 l0 l2 l4 m = some out → Jd g w 6 (rmL lv 0 0) (Qm g w none out) 51 [some (vR l0), none, some (vI l2), none, some (vI l4), none] [] 312 m 0 0) (f : Nat) : ∀ {l0 : Nat} {l1 : Nat} {l2 : Int} {l3 : Int} {l4 : Int} {l5 : Int} {m : Mem}, X8_putNumber_L24 N k51 f l0 l1 l2 l3 l4 l5 m = some out → Jd g w 6 (rmL lv 0 0) (Qm g w none out) 24 [some (vR l0), some (vR l1), some (vI l2), some (vI l3), some (vI l4), some (vI l5)] [] 312 m 0 0 := by
  induction f with
  | zero => intro l0 l1 l2 l3 l4 l5 m h; exact none_ne (α := Mem) h
  | succ f ih => intro l0 l1 l2 l3 l4 l5 m h; exact X8_putNumber_L24_bok C hlv hk51 (fun l0 l1 l2 l3 l4 l5 m h => ih h) h
set_option maxRecDepth 100000 in
set_option maxHeartbeats 4000000 in
theorem X8_putNumber_ct {N : Nat} {l0 : Nat} {l1 : Nat} {l2 : Int} {l3 : Int} {m : Mem} {out : Mem} (h : X8_putNumber N l0 l1 l2 l3 m = some out) : shK l0 = 8 + 10 ∧ CT yX8_putNumber cX8_putNumber 6 none 2 0 0 [vR l0, vR l1, vI l2, vI l3] 312 m none 312 out := by
  unfold X8_putNumber at h
  obtain ⟨hK, h⟩ := ite_some h
  have hlv : 1 < 2 := by decide
  refine ⟨hK, CT.of (by decide +kernel) rfl (Nat.le_of_ble_eq_true rfl) (ls := [some (vR l0), some (vR l1), some (vI l2), some (vI l3), none, none]) rfl fun g w C _ => ?_⟩
  refine j_iload_n C dX8_putNumber_0 rfl ?_
  refine j_iload_n C dX8_putNumber_1 rfl ?_
  refine j_isub C dX8_putNumber_2 ?_
  refine j_iconst C dX8_putNumber_3 rfl ?_
  refine j_icmp_le C 18 dX8_putNumber_4 rfl h (fun c9 h => ?_) (fun c9 h => ?_)
  · refine j_iconst C dX8_putNumber_18 rfl ?_
    refine j_istore (ls' := [some (vR _), some (vR _), some (vI _), some (vI _), some (vI _), none]) C dX8_putNumber_19 (by decide) rfl ?_
    refine j_iload_n C dX8_putNumber_21 rfl ?_
    refine j_istore (ls' := [some (vR _), some (vR _), some (vI _), some (vI _), some (vI _), some (vI _)]) C dX8_putNumber_22 (by decide) rfl ?_
    refine X8_putNumber_L24_ok C hlv (fun z3 z4 z5 m6 h => ?_) N h
    refine j_aload_n C dX8_putNumber_51 rfl ?_
    refine j_iconst C dX8_putNumber_52 rfl ?_
    refine j_iload_n C dX8_putNumber_53 rfl ?_
    refine j_iload C dX8_putNumber_54 rfl ?_
    obtain ⟨p7, ep7, h⟩ := bind_some h
    have qp7 := X8_put_ct ep7
    refine j_cVV C dX8_putNumber_56 vl_X8_55 CF8 rfl qp7.1 qp7.2 (by omega) rfl rfl (Nat.le_of_ble_eq_true rfl) ?_
    have e := Option.some.inj h
    subst e
    exact j_rv C dX8_putNumber_59 rfl rfl
  · refine j_aload_n C dX8_putNumber_7 rfl ?_
    refine j_bipush C dX8_putNumber_8 rfl ?_
    refine j_iload_n C dX8_putNumber_10 rfl ?_
    refine j_iload_n C dX8_putNumber_11 rfl ?_
    refine j_iconst C dX8_putNumber_12 rfl ?_
    refine j_iadd C dX8_putNumber_13 ?_
    obtain ⟨p8, ep8, h⟩ := bind_some h
    have qp8 := X8_put_ct ep8
    refine j_cVV C dX8_putNumber_14 vl_X8_55 CF8 rfl qp8.1 qp8.2 (by omega) rfl rfl (Nat.le_of_ble_eq_true rfl) ?_
    have e := Option.some.inj h
    subst e
    exact j_rv C dX8_putNumber_17 rfl rfl
theorem dX8_cutOne_0 : decode cX8_cutOne 0 = .ok (.aload_n 1, 1) := by decide +kernel
theorem dX8_cutOne_1 : decode cX8_cutOne 1 = .ok (.iload_n 3, 1) := by decide +kernel
theorem dX8_cutOne_2 : decode cX8_cutOne 2 = .ok (.iaload, 1) := by decide +kernel
theorem dX8_cutOne_3 : decode cX8_cutOne 3 = .ok (.invokestatic 59, 3) := by decide +kernel
theorem dX8_cutOne_6 : decode cX8_cutOne 6 = .ok (.istore 4, 2) := by decide +kernel
theorem dX8_cutOne_8 : decode cX8_cutOne 8 = .ok (.aload_n 1, 1) := by decide +kernel
theorem dX8_cutOne_9 : decode cX8_cutOne 9 = .ok (.iload_n 3, 1) := by decide +kernel
theorem dX8_cutOne_10 : decode cX8_cutOne 10 = .ok (.iaload, 1) := by decide +kernel
theorem dX8_cutOne_11 : decode cX8_cutOne 11 = .ok (.invokestatic 62, 3) := by decide +kernel
theorem dX8_cutOne_14 : decode cX8_cutOne 14 = .ok (.istore 5, 2) := by decide +kernel
theorem dX8_cutOne_16 : decode cX8_cutOne 16 = .ok (.iload_n 3, 1) := by decide +kernel
theorem dX8_cutOne_17 : decode cX8_cutOne 17 = .ok (.iconst 1, 1) := by decide +kernel
theorem dX8_cutOne_18 : decode cX8_cutOne 18 = .ok (.iadd, 1) := by decide +kernel
theorem dX8_cutOne_19 : decode cX8_cutOne 19 = .ok (.istore 6, 2) := by decide +kernel
theorem dX8_cutOne_21 : decode cX8_cutOne 21 = .ok (.iload 6, 2) := by decide +kernel
theorem dX8_cutOne_23 : decode cX8_cutOne 23 = .ok (.iload_n 2, 1) := by decide +kernel
theorem dX8_cutOne_24 : decode cX8_cutOne 24 = .ok (.if_icmp .ge 39, 3) := by decide +kernel
theorem dX8_cutOne_27 : decode cX8_cutOne 27 = .ok (.iload 4, 2) := by decide +kernel
theorem dX8_cutOne_29 : decode cX8_cutOne 29 = .ok (.ifCond .eq 13, 3) := by decide +kernel
theorem dX8_cutOne_32 : decode cX8_cutOne 32 = .ok (.aload_n 1, 1) := by decide +kernel
theorem dX8_cutOne_33 : decode cX8_cutOne 33 = .ok (.iload 6, 2) := by decide +kernel
theorem dX8_cutOne_35 : decode cX8_cutOne 35 = .ok (.iaload, 1) := by decide +kernel
theorem dX8_cutOne_36 : decode cX8_cutOne 36 = .ok (.invokestatic 59, 3) := by decide +kernel
theorem dX8_cutOne_39 : decode cX8_cutOne 39 = .ok (.ifCond .ne 18, 3) := by decide +kernel
theorem dX8_cutOne_42 : decode cX8_cutOne 42 = .ok (.iload 5, 2) := by decide +kernel
theorem dX8_cutOne_44 : decode cX8_cutOne 44 = .ok (.ifCond .eq 19, 3) := by decide +kernel
theorem dX8_cutOne_47 : decode cX8_cutOne 47 = .ok (.aload_n 1, 1) := by decide +kernel
theorem dX8_cutOne_48 : decode cX8_cutOne 48 = .ok (.iload 6, 2) := by decide +kernel
theorem dX8_cutOne_50 : decode cX8_cutOne 50 = .ok (.iaload, 1) := by decide +kernel
theorem dX8_cutOne_51 : decode cX8_cutOne 51 = .ok (.invokestatic 62, 3) := by decide +kernel
theorem dX8_cutOne_54 : decode cX8_cutOne 54 = .ok (.ifCond .eq 9, 3) := by decide +kernel
theorem dX8_cutOne_57 : decode cX8_cutOne 57 = .ok (.iinc 6 1, 3) := by decide +kernel
theorem dX8_cutOne_60 : decode cX8_cutOne 60 = .ok (.goto (-39), 3) := by decide +kernel
theorem dX8_cutOne_63 : decode cX8_cutOne 63 = .ok (.iload_n 3, 1) := by decide +kernel
theorem dX8_cutOne_64 : decode cX8_cutOne 64 = .ok (.ifCond .le 39, 3) := by decide +kernel
theorem dX8_cutOne_67 : decode cX8_cutOne 67 = .ok (.iload 4, 2) := by decide +kernel
theorem dX8_cutOne_69 : decode cX8_cutOne 69 = .ok (.ifCond .eq 14, 3) := by decide +kernel
theorem dX8_cutOne_72 : decode cX8_cutOne 72 = .ok (.aload_n 1, 1) := by decide +kernel
theorem dX8_cutOne_73 : decode cX8_cutOne 73 = .ok (.iload_n 3, 1) := by decide +kernel
theorem dX8_cutOne_74 : decode cX8_cutOne 74 = .ok (.iconst 1, 1) := by decide +kernel
theorem dX8_cutOne_75 : decode cX8_cutOne 75 = .ok (.isub, 1) := by decide +kernel
theorem dX8_cutOne_76 : decode cX8_cutOne 76 = .ok (.iaload, 1) := by decide +kernel
theorem dX8_cutOne_77 : decode cX8_cutOne 77 = .ok (.invokestatic 62, 3) := by decide +kernel
theorem dX8_cutOne_80 : decode cX8_cutOne 80 = .ok (.ifCond .ne 19, 3) := by decide +kernel
theorem dX8_cutOne_83 : decode cX8_cutOne 83 = .ok (.iload 5, 2) := by decide +kernel
theorem dX8_cutOne_85 : decode cX8_cutOne 85 = .ok (.ifCond .eq 18, 3) := by decide +kernel
theorem dX8_cutOne_88 : decode cX8_cutOne 88 = .ok (.aload_n 1, 1) := by decide +kernel
theorem dX8_cutOne_89 : decode cX8_cutOne 89 = .ok (.iload_n 3, 1) := by decide +kernel
theorem dX8_cutOne_90 : decode cX8_cutOne 90 = .ok (.iconst 1, 1) := by decide +kernel
theorem dX8_cutOne_91 : decode cX8_cutOne 91 = .ok (.isub, 1) := by decide +kernel
theorem dX8_cutOne_92 : decode cX8_cutOne 92 = .ok (.iaload, 1) := by decide +kernel
theorem dX8_cutOne_93 : decode cX8_cutOne 93 = .ok (.invokestatic 59, 3) := by decide +kernel
theorem dX8_cutOne_96 : decode cX8_cutOne 96 = .ok (.ifCond .eq 7, 3) := by decide +kernel
theorem dX8_cutOne_99 : decode cX8_cutOne 99 = .ok (.iconst 1, 1) := by decide +kernel
theorem dX8_cutOne_100 : decode cX8_cutOne 100 = .ok (.goto 4, 3) := by decide +kernel
theorem dX8_cutOne_103 : decode cX8_cutOne 103 = .ok (.iconst 0, 1) := by decide +kernel
theorem dX8_cutOne_104 : decode cX8_cutOne 104 = .ok (.istore 7, 2) := by decide +kernel
theorem dX8_cutOne_106 : decode cX8_cutOne 106 = .ok (.iload 7, 2) := by decide +kernel
theorem dX8_cutOne_108 : decode cX8_cutOne 108 = .ok (.ifCond .eq 14, 3) := by decide +kernel
theorem dX8_cutOne_111 : decode cX8_cutOne 111 = .ok (.aload_n 0, 1) := by decide +kernel
theorem dX8_cutOne_112 : decode cX8_cutOne 112 = .ok (.bipush 6, 2) := by decide +kernel
theorem dX8_cutOne_114 : decode cX8_cutOne 114 = .ok (.iload_n 3, 1) := by decide +kernel
theorem dX8_cutOne_115 : decode cX8_cutOne 115 = .ok (.iload_n 3, 1) := by decide +kernel
theorem dX8_cutOne_116 : decode cX8_cutOne 116 = .ok (.invokevirtual 55, 3) := by decide +kernel
theorem dX8_cutOne_119 : decode cX8_cutOne 119 = .ok (.goto 72, 3) := by decide +kernel
theorem dX8_cutOne_122 : decode cX8_cutOne 122 = .ok (.aload_n 0, 1) := by decide +kernel
theorem dX8_cutOne_123 : decode cX8_cutOne 123 = .ok (.getfield 25, 3) := by decide +kernel
theorem dX8_cutOne_126 : decode cX8_cutOne 126 = .ok (.ifCond .eq 24, 3) := by decide +kernel
theorem dX8_cutOne_129 : decode cX8_cutOne 129 = .ok (.iload 4, 2) := by decide +kernel
theorem dX8_cutOne_131 : decode cX8_cutOne 131 = .ok (.ifCond .ne 8, 3) := by decide +kernel
theorem dX8_cutOne_134 : decode cX8_cutOne 134 = .ok (.iload 5, 2) := by decide +kernel
theorem dX8_cutOne_136 : decode cX8_cutOne 136 = .ok (.ifCond .eq 14, 3) := by decide +kernel
theorem dX8_cutOne_139 : decode cX8_cutOne 139 = .ok (.aload_n 0, 1) := by decide +kernel
theorem dX8_cutOne_140 : decode cX8_cutOne 140 = .ok (.aload_n 1, 1) := by decide +kernel
theorem dX8_cutOne_141 : decode cX8_cutOne 141 = .ok (.iload_n 3, 1) := by decide +kernel
theorem dX8_cutOne_142 : decode cX8_cutOne 142 = .ok (.iload 6, 2) := by decide +kernel
theorem dX8_cutOne_144 : decode cX8_cutOne 144 = .ok (.invokevirtual 65, 3) := by decide +kernel
theorem dX8_cutOne_147 : decode cX8_cutOne 147 = .ok (.goto 44, 3) := by decide +kernel
theorem dX8_cutOne_150 : decode cX8_cutOne 150 = .ok (.iload 4, 2) := by decide +kernel
theorem dX8_cutOne_152 : decode cX8_cutOne 152 = .ok (.ifCond .eq 14, 3) := by decide +kernel
theorem dX8_cutOne_155 : decode cX8_cutOne 155 = .ok (.aload_n 0, 1) := by decide +kernel
theorem dX8_cutOne_156 : decode cX8_cutOne 156 = .ok (.aload_n 1, 1) := by decide +kernel
theorem dX8_cutOne_157 : decode cX8_cutOne 157 = .ok (.iload_n 3, 1) := by decide +kernel
theorem dX8_cutOne_158 : decode cX8_cutOne 158 = .ok (.iload 6, 2) := by decide +kernel
theorem dX8_cutOne_160 : decode cX8_cutOne 160 = .ok (.invokevirtual 69, 3) := by decide +kernel
theorem dX8_cutOne_163 : decode cX8_cutOne 163 = .ok (.goto 28, 3) := by decide +kernel
theorem dX8_cutOne_166 : decode cX8_cutOne 166 = .ok (.iload 5, 2) := by decide +kernel
theorem dX8_cutOne_168 : decode cX8_cutOne 168 = .ok (.ifCond .eq 14, 3) := by decide +kernel
theorem dX8_cutOne_171 : decode cX8_cutOne 171 = .ok (.aload_n 0, 1) := by decide +kernel
theorem dX8_cutOne_172 : decode cX8_cutOne 172 = .ok (.aload_n 1, 1) := by decide +kernel
theorem dX8_cutOne_173 : decode cX8_cutOne 173 = .ok (.iload_n 3, 1) := by decide +kernel
theorem dX8_cutOne_174 : decode cX8_cutOne 174 = .ok (.iload 6, 2) := by decide +kernel
theorem dX8_cutOne_176 : decode cX8_cutOne 176 = .ok (.invokevirtual 72, 3) := by decide +kernel
theorem dX8_cutOne_179 : decode cX8_cutOne 179 = .ok (.goto 12, 3) := by decide +kernel
theorem dX8_cutOne_182 : decode cX8_cutOne 182 = .ok (.aload_n 0, 1) := by decide +kernel
theorem dX8_cutOne_183 : decode cX8_cutOne 183 = .ok (.iconst 5, 1) := by decide +kernel
theorem dX8_cutOne_184 : decode cX8_cutOne 184 = .ok (.iload_n 3, 1) := by decide +kernel
theorem dX8_cutOne_185 : decode cX8_cutOne 185 = .ok (.aload_n 1, 1) := by decide +kernel
theorem dX8_cutOne_186 : decode cX8_cutOne 186 = .ok (.iload_n 3, 1) := by decide +kernel
theorem dX8_cutOne_187 : decode cX8_cutOne 187 = .ok (.iaload, 1) := by decide +kernel
theorem dX8_cutOne_188 : decode cX8_cutOne 188 = .ok (.invokevirtual 55, 3) := by decide +kernel
theorem dX8_cutOne_191 : decode cX8_cutOne 191 = .ok (.iload 6, 2) := by decide +kernel
theorem dX8_cutOne_193 : decode cX8_cutOne 193 = .ok (.ireturn, 1) := by decide +kernel
set_option maxRecDepth 100000 in
set_option maxHeartbeats 4000000 in
theorem X8_cutOne_J57_ok {g : Gm} {w : Wd} (C : Cx g w RX8 cX8_cutOne 8 (some .int)) {lv : Nat} (hlv : 2 < lv) {N : Nat} {r21 : Nat → Nat → Int → Int → Int → Int → Int → Mem → Option (Int × Mem) } {l0 : Nat} {l1 : Nat} {l2 : Int} {l3 : Int} {l4 : Int} {l5 : Int} {l6 : Int} {m : Mem} {out : (Int × Mem)} (hr21 : ∀ l0 l1 l2 l3 l4 l5 l6 m, r21 l0 l1 l2 l3 l4 l5 l6 m = some out → Jd g w 8 (rmL lv 0 0) (Qm g w (some (vI out.1)) out.2) 21 [some (vR l0), some (vR l1), some (vI l2), some (vI l3), some (vI l4), some (vI l5), some (vI l6), none] [] 312 m 0 0) (h : X8_cutOne_J57 N r21 l0 l1 l2 l3 l4 l5 l6 m = some out) : Jd g w 8 (rmL lv 0 0) (Qm g w (some (vI out.1)) out.2) 57 [some (vR l0), some (vR l1), some (vI l2), some (vI l3), some (vI l4), some (vI l5), some (vI l6), none] [] 312 m 0 0 := by
  unfold X8_cutOne_J57 at h
  refine j_iinc (ls' := [some (vR _), some (vR _), some (vI _), some (vI _), some (vI _), some (vI _), some (vI _), none]) C dX8_cutOne_57 rfl (by decide) rfl ?_
  refine j_goto C 21 dX8_cutOne_60 rfl ?_
  exact hr21 _ _ _ _ _ _ _ _ h
set_option maxRecDepth 100000 in
set_option maxHeartbeats 4000000 in
theorem X8_cutOne_J42_ok {g : Gm} {w : Wd} (C : Cx g w RX8 cX8_cutOne 8 (some .int)) {lv : Nat} (hlv : 2 < lv) {N : Nat} {r21 : Nat → Nat → Int → Int → Int → Int → Int → Mem → Option (Int × Mem) } {k63 : Nat → Nat → Int → Int → Int → Int → Mem → Option (Int × Mem) } {l0 : Nat} {l1 : Nat} {l2 : Int} {l3 : Int} {l4 : Int} {l5 : Int} {l6 : Int} {m : Mem} {out : (Int × Mem)} (hr21 : ∀ l0 l1 l2 l3 l4 l5 l6 m, r21 l0 l1 l2 l3 l4 l5 l6 m = some out → Jd g w 8 (rmL lv 0 0) (Qm g w (some (vI out.1)) out.2) 21 [some (vR l0), some (vR l1), some (vI l2), some (vI l3), some (vI l4), some (vI l5), some (vI l6), none] [] 312 m 0 0) (hk63 : ∀ l0 l1 l3 l4 l5 l6 m, k63 l0 l1 l3 l4 l5 l6 m = some out → Jd g w 8 (rmL lv 0 0) (Qm g w (some (vI out.1)) out.2) 63 [some (vR l0), some (vR l1), none, some (vI l3), some (vI l4), some (vI l5), some (vI l6), none] [] 312 m 0 0) (h : X8_cutOne_J42 N r21 k63 l0 l1 l2 l3 l4 l5 l6 m = some out) : Jd g w 8 (rmL lv 0 0) (Qm g w (some (vI out.1)) out.2) 42 [some (vR l0), some (vR l1), some (vI l2), some (vI l3), some (vI l4), some (vI l5), some (vI l6), none] [] 312 m 0 0 := by
  unfold X8_cutOne_J42 at h
  refine j_iload C dX8_cutOne_42 rfl ?_
  refine j_if_eq C 63 dX8_cutOne_44 rfl h (fun c8 h => ?_) (fun c8 h => ?_)
  · refine j_mask [true, true, false, true, true, true, true, false] (ls' := [some (vR _), some (vR _), none, some (vI _), some (vI _), some (vI _), some (vI _), none]) rfl ?_
    exact hk63 _ _ _ _ _ _ _ h
  · refine j_aload_n C dX8_cutOne_47 rfl ?_
    refine j_iload C dX8_cutOne_48 rfl ?_
    refine j_iald C dX8_cutOne_50 rfl h (fun t5 h => ?_)
    obtain ⟨p6, ep6, h⟩ := bind_some h
    have qp6 := X8_isDigit_ct ep6
    refine j_cSI C dX8_cutOne_51 sl_X8_62 qp6 (by omega) rfl rfl (Nat.le_of_ble_eq_true rfl) ?_
    refine j_if_eq C 63 dX8_cutOne_54 rfl h (fun c7 h => ?_) (fun c7 h => ?_)
    · refine j_mask [true, true, false, true, true, true, true, false] (ls' := [some (vR _), some (vR _), none, some (vI _), some (vI _), some (vI _), some (vI _), none]) rfl ?_
      exact hk63 _ _ _ _ _ _ _ h
    · exact X8_cutOne_J57_ok C hlv hr21 h
set_option maxRecDepth 100000 in
set_option maxHeartbeats 4000000 in
theorem X8_cutOne_L21_bok {g : Gm} {w : Wd} (C : Cx g w RX8 cX8_cutOne 8 (some .int)) {lv : Nat} (hlv : 2 < lv) {N : Nat} {k63 : Nat → Nat → Int → Int → Int → Int → Mem → Option (Int × Mem)} {r21 : Nat → Nat → Int → Int → Int → Int → Int → Mem → Option (Int × Mem)} {l0 : Nat} {l1 : Nat} {l2 : Int} {l3 : Int} {l4 : Int} {l5 : Int} {l6 : Int} {m : Mem} {out : (Int × Mem)} (hk63 : ∀ l0 l1 l3 l4 l5 l6 m, k63 l0 l1 l3 l4 l5 l6 m = some out → Jd g w 8 (rmL lv 0 0) (Qm g w (some (vI out.1)) out.2) 63 [some (vR l0), some (vR l1), none, some (vI l3), some (vI l4), some (vI l5), some (vI l6), none] [] 312 m 0 0) (hr21 : ∀ l0 l1 l2 l3 l4 l5 l6 m, r21 l0 l1 l2 l3 l4 l5 l6 m = some out → Jd g w 8 (rmL lv 0 0) (Qm g w (some (vI out.1)) out.2) 21 [some (vR l0), some (vR l1), some (vI l2), some (vI l3), some (vI l4), some (vI l5), some (vI l6), none] [] 312 m 0 0) (h : X8_cutOne_L21_b N k63 r21 l0 l1 l2 l3 l4 l5 l6 m = some out) : Jd g w 8 (rmL lv 0 0) (Qm g w (some (vI out.1)) out.2) 21 [some (vR l0), some (vR l1), some (vI l2), some (vI l3), some (vI l4), some (vI l5), some (vI l6), none] [] 312 m 0 0 := by
  unfold X8_cutOne_L21_b at h
  refine j_iload C dX8_cutOne_21 rfl ?_
  refine j_iload_n C dX8_cutOne_23 rfl ?_
  refine j_icmp_ge C 63 dX8_cutOne_24 rfl h (fun c13 h => ?_) (fun c13 h => ?_)
  · refine j_mask [true, true, false, true, true, true, true, false] (ls' := [some (vR _), some (vR _), none, some (vI _), some (vI _), some (vI _), some (vI _), none]) rfl ?_
    exact hk63 _ _ _ _ _ _ _ h
  · refine j_iload C dX8_cutOne_27 rfl ?_
    refine j_if_eq C 42 dX8_cutOne_29 rfl h (fun c12 h => ?_) (fun c12 h => ?_)
    · exact X8_cutOne_J42_ok C hlv hr21 hk63 h
    · refine j_aload_n C dX8_cutOne_32 rfl ?_
      refine j_iload C dX8_cutOne_33 rfl ?_
      refine j_iald C dX8_cutOne_35 rfl h (fun t9 h => ?_)
      obtain ⟨p10, ep10, h⟩ := bind_some h
      have qp10 := X8_isLetter_ct ep10
      refine j_cSI C dX8_cutOne_36 sl_X8_59 qp10 (by omega) rfl rfl (Nat.le_of_ble_eq_true rfl) ?_
      refine j_if_ne C 57 dX8_cutOne_39 rfl h (fun c11 h => ?_) (fun c11 h => ?_)
      · exact X8_cutOne_J57_ok C hlv hr21 h
      · exact X8_cutOne_J42_ok C hlv hr21 hk63 h
set_option maxRecDepth 100000 in
set_option maxHeartbeats 4000000 in
theorem X8_cutOne_L21_ok {g : Gm} {w : Wd} (C : Cx g w RX8 cX8_cutOne 8 (some .int)) {lv : Nat} (hlv : 2 < lv) {N : Nat} {k63 : Nat → Nat → Int → Int → Int → Int → Mem → Option (Int × Mem)} {out : (Int × Mem)} (hk63 : ∀ l0 l1 l3 l4 l5 l6 m, k63 l0 l1 l3 l4 l5 l6 m = some out → Jd g w 8 (rmL lv 0 0) (Qm g w (some (vI out.1)) out.2) 63 [some (vR l0), some (vR l1), none, some (vI l3), some (vI l4), some (vI l5), some (vI l6), none] [] 312 m 0 0) (f : Nat) : ∀ {l0 : Nat} {l1 : Nat} {l2 : Int} {l3 : Int} {l4 : Int} {l5 : Int} {l6 : Int} {m : Mem}, X8_cutOne_L21 N k63 f l0 l1 l2 l3 l4 l5 l6 m = some out → Jd g w 8 (rmL lv 0 0) (Qm g w (some (vI out.1)) out.2) 21 [some (vR l0), some (vR l1), some (vI l2), some (vI l3), some (vI l4), some (vI l5), some (vI l6), none] [] 312 m 0 0 := by
  induction f with
  | zero => intro l0 l1 l2 l3 l4 l5 l6 m h; exact none_ne (α := (Int × Mem)) h
  | succ f ih => intro l0 l1 l2 l3 l4 l5 l6 m h; exact X8_cutOne_L21_bok C hlv hk63 (fun l0 l1 l2 l3 l4 l5 l6 m h => ih h) h
set_option maxRecDepth 100000 in
set_option maxHeartbeats 4000000 in
theorem X8_cutOne_J150_ok {g : Gm} {w : Wd} (C : Cx g w RX8 cX8_cutOne 8 (some .int)) {lv : Nat} (hlv : 2 < lv) {N : Nat} {l0 : Nat} {l1 : Nat} {l3 : Int} {l4 : Int} {l5 : Int} {l6 : Int} {m : Mem} {out : (Int × Mem)} (h : X8_cutOne_J150 N l0 l1 l3 l4 l5 l6 m = some out) : Jd g w 8 (rmL lv 0 0) (Qm g w (some (vI out.1)) out.2) 150 [some (vR l0), some (vR l1), none, some (vI l3), some (vI l4), some (vI l5), some (vI l6), none] [] 312 m 0 0 := by
  unfold X8_cutOne_J150 at h
  refine j_iload C dX8_cutOne_150 rfl ?_
  refine j_if_eq C 166 dX8_cutOne_152 rfl h (fun c27 h => ?_) (fun c27 h => ?_)
  · refine j_iload C dX8_cutOne_166 rfl ?_
    refine j_if_eq C 182 dX8_cutOne_168 rfl h (fun c25 h => ?_) (fun c25 h => ?_)
    · refine j_aload_n C dX8_cutOne_182 rfl ?_
      refine j_iconst C dX8_cutOne_183 rfl ?_
      refine j_iload_n C dX8_cutOne_184 rfl ?_
      refine j_aload_n C dX8_cutOne_185 rfl ?_
      refine j_iload_n C dX8_cutOne_186 rfl ?_
      refine j_iald C dX8_cutOne_187 rfl h (fun t22 h => ?_)
      obtain ⟨p23, ep23, h⟩ := bind_some h
      have qp23 := X8_put_ct ep23
      refine j_cVV C dX8_cutOne_188 vl_X8_55 CF8 rfl qp23.1 qp23.2 (by omega) rfl rfl (Nat.le_of_ble_eq_true rfl) ?_
      refine j_iload C dX8_cutOne_191 rfl ?_
      have e := Option.some.inj h
      subst e
      exact j_ri C dX8_cutOne_193 rfl rfl rfl
    · refine j_aload_n C dX8_cutOne_171 rfl ?_
      refine j_aload_n C dX8_cutOne_172 rfl ?_
      refine j_iload_n C dX8_cutOne_173 rfl ?_
      refine j_iload C dX8_cutOne_174 rfl ?_
      obtain ⟨p24, ep24, h⟩ := bind_some h
      have qp24 := X8_putNumber_ct ep24
      refine j_cVV C dX8_cutOne_176 vl_X8_72 CF8 rfl qp24.1 qp24.2 (by omega) rfl rfl (Nat.le_of_ble_eq_true rfl) ?_
      refine j_goto C 191 dX8_cutOne_179 rfl ?_
      refine j_iload C dX8_cutOne_191 rfl ?_
      have e := Option.some.inj h
      subst e
      exact j_ri C dX8_cutOne_193 rfl rfl rfl
  · refine j_aload_n C dX8_cutOne_155 rfl ?_
    refine j_aload_n C dX8_cutOne_156 rfl ?_
    refine j_iload_n C dX8_cutOne_157 rfl ?_
    refine j_iload C dX8_cutOne_158 rfl ?_
    obtain ⟨p26, ep26, h⟩ := bind_some h
    have qp26 := X8_putWord_ct ep26
    refine j_cVV C dX8_cutOne_160 vl_X8_69 CF8 rfl qp26.1 qp26.2 (by omega) rfl rfl (Nat.le_of_ble_eq_true rfl) ?_
    refine j_goto C 191 dX8_cutOne_163 rfl ?_
    refine j_iload C dX8_cutOne_191 rfl ?_
    have e := Option.some.inj h
    subst e
    exact j_ri C dX8_cutOne_193 rfl rfl rfl
set_option maxRecDepth 100000 in
set_option maxHeartbeats 4000000 in
theorem X8_cutOne_J139_ok {g : Gm} {w : Wd} (C : Cx g w RX8 cX8_cutOne 8 (some .int)) {lv : Nat} (hlv : 2 < lv) {N : Nat} {l0 : Nat} {l1 : Nat} {l3 : Int} {l6 : Int} {m : Mem} {out : (Int × Mem)} (h : X8_cutOne_J139 N l0 l1 l3 l6 m = some out) : Jd g w 8 (rmL lv 0 0) (Qm g w (some (vI out.1)) out.2) 139 [some (vR l0), some (vR l1), none, some (vI l3), none, none, some (vI l6), none] [] 312 m 0 0 := by
  unfold X8_cutOne_J139 at h
  refine j_aload_n C dX8_cutOne_139 rfl ?_
  refine j_aload_n C dX8_cutOne_140 rfl ?_
  refine j_iload_n C dX8_cutOne_141 rfl ?_
  refine j_iload C dX8_cutOne_142 rfl ?_
  obtain ⟨p28, ep28, h⟩ := bind_some h
  have qp28 := X8_putLetters_ct ep28
  refine j_cVV C dX8_cutOne_144 vl_X8_65 CF8 rfl qp28.1 qp28.2 (by omega) rfl rfl (Nat.le_of_ble_eq_true rfl) ?_
  refine j_goto C 191 dX8_cutOne_147 rfl ?_
  refine j_iload C dX8_cutOne_191 rfl ?_
  have e := Option.some.inj h
  subst e
  exact j_ri C dX8_cutOne_193 rfl rfl rfl
set_option maxRecDepth 100000 in
set_option maxHeartbeats 4000000 in
theorem X8_cutOne_J104_ok {g : Gm} {w : Wd} (C : Cx g w RX8 cX8_cutOne 8 (some .int)) {lv : Nat} (hlv : 2 < lv) {N : Nat} {l0 : Nat} {l1 : Nat} {l3 : Int} {l4 : Int} {l5 : Int} {l6 : Int} {s0 : Int} {m : Mem} {out : (Int × Mem)} (h : X8_cutOne_J104 N l0 l1 l3 l4 l5 l6 s0 m = some out) : Jd g w 8 (rmL lv 0 0) (Qm g w (some (vI out.1)) out.2) 104 [some (vR l0), some (vR l1), none, some (vI l3), some (vI l4), some (vI l5), some (vI l6), none] [vI s0] 312 m 0 0 := by
  unfold X8_cutOne_J104 at h
  refine j_istore (ls' := [some (vR _), some (vR _), none, some (vI _), some (vI _), some (vI _), some (vI _), some (vI _)]) C dX8_cutOne_104 (by decide) rfl ?_
  refine j_iload C dX8_cutOne_106 rfl ?_
  refine j_if_eq C 122 dX8_cutOne_108 rfl h (fun c33 h => ?_) (fun c33 h => ?_)
  · refine j_aload_n C dX8_cutOne_122 rfl ?_
    refine j_getI C dX8_cutOne_123 CF8 (by decide) fl_X8_25 rfl rfl h (fun t21 h => ?_)
    refine j_if_eq C 150 dX8_cutOne_126 rfl h (fun c31 h => ?_) (fun c31 h => ?_)
    · refine j_mask [true, true, false, true, true, true, true, false] (ls' := [some (vR _), some (vR _), none, some (vI _), some (vI _), some (vI _), some (vI _), none]) rfl ?_
      exact X8_cutOne_J150_ok C hlv h
    · refine j_iload C dX8_cutOne_129 rfl ?_
      refine j_if_ne C 139 dX8_cutOne_131 rfl h (fun c30 h => ?_) (fun c30 h => ?_)
      · refine j_mask [true, true, false, true, false, false, true, false] (ls' := [some (vR _), some (vR _), none, some (vI _), none, none, some (vI _), none]) rfl ?_
        exact X8_cutOne_J139_ok C hlv h
      · refine j_iload C dX8_cutOne_134 rfl ?_
        refine j_if_eq C 150 dX8_cutOne_136 rfl h (fun c29 h => ?_) (fun c29 h => ?_)
        · refine j_mask [true, true, false, true, true, true, true, false] (ls' := [some (vR _), some (vR _), none, some (vI _), some (vI _), some (vI _), some (vI _), none]) rfl ?_
          exact X8_cutOne_J150_ok C hlv h
        · refine j_mask [true, true, false, true, false, false, true, false] (ls' := [some (vR _), some (vR _), none, some (vI _), none, none, some (vI _), none]) rfl ?_
          exact X8_cutOne_J139_ok C hlv h
  · refine j_aload_n C dX8_cutOne_111 rfl ?_
    refine j_bipush C dX8_cutOne_112 rfl ?_
    refine j_iload_n C dX8_cutOne_114 rfl ?_
    refine j_iload_n C dX8_cutOne_115 rfl ?_
    obtain ⟨p32, ep32, h⟩ := bind_some h
    have qp32 := X8_put_ct ep32
    refine j_cVV C dX8_cutOne_116 vl_X8_55 CF8 rfl qp32.1 qp32.2 (by omega) rfl rfl (Nat.le_of_ble_eq_true rfl) ?_
    refine j_goto C 191 dX8_cutOne_119 rfl ?_
    refine j_iload C dX8_cutOne_191 rfl ?_
    have e := Option.some.inj h
    subst e
    exact j_ri C dX8_cutOne_193 rfl rfl rfl
set_option maxRecDepth 100000 in
set_option maxHeartbeats 4000000 in
theorem X8_cutOne_J103_ok {g : Gm} {w : Wd} (C : Cx g w RX8 cX8_cutOne 8 (some .int)) {lv : Nat} (hlv : 2 < lv) {N : Nat} {l0 : Nat} {l1 : Nat} {l3 : Int} {l4 : Int} {l5 : Int} {l6 : Int} {m : Mem} {out : (Int × Mem)} (h : X8_cutOne_J103 N l0 l1 l3 l4 l5 l6 m = some out) : Jd g w 8 (rmL lv 0 0) (Qm g w (some (vI out.1)) out.2) 103 [some (vR l0), some (vR l1), none, some (vI l3), some (vI l4), some (vI l5), some (vI l6), none] [] 312 m 0 0 := by
  unfold X8_cutOne_J103 at h
  refine j_iconst C dX8_cutOne_103 rfl ?_
  exact X8_cutOne_J104_ok C hlv h
set_option maxRecDepth 100000 in
set_option maxHeartbeats 4000000 in
theorem X8_cutOne_J99_ok {g : Gm} {w : Wd} (C : Cx g w RX8 cX8_cutOne 8 (some .int)) {lv : Nat} (hlv : 2 < lv) {N : Nat} {l0 : Nat} {l1 : Nat} {l3 : Int} {l4 : Int} {l5 : Int} {l6 : Int} {m : Mem} {out : (Int × Mem)} (h : X8_cutOne_J99 N l0 l1 l3 l4 l5 l6 m = some out) : Jd g w 8 (rmL lv 0 0) (Qm g w (some (vI out.1)) out.2) 99 [some (vR l0), some (vR l1), none, some (vI l3), some (vI l4), some (vI l5), some (vI l6), none] [] 312 m 0 0 := by
  unfold X8_cutOne_J99 at h
  refine j_iconst C dX8_cutOne_99 rfl ?_
  refine j_goto C 104 dX8_cutOne_100 rfl ?_
  exact X8_cutOne_J104_ok C hlv h
set_option maxRecDepth 100000 in
set_option maxHeartbeats 4000000 in
theorem X8_cutOne_J83_ok {g : Gm} {w : Wd} (C : Cx g w RX8 cX8_cutOne 8 (some .int)) {lv : Nat} (hlv : 2 < lv) {N : Nat} {l0 : Nat} {l1 : Nat} {l3 : Int} {l4 : Int} {l5 : Int} {l6 : Int} {m : Mem} {out : (Int × Mem)} (h : X8_cutOne_J83 N l0 l1 l3 l4 l5 l6 m = some out) : Jd g w 8 (rmL lv 0 0) (Qm g w (some (vI out.1)) out.2) 83 [some (vR l0), some (vR l1), none, some (vI l3), some (vI l4), some (vI l5), some (vI l6), none] [] 312 m 0 0 := by
  unfold X8_cutOne_J83 at h
  refine j_iload C dX8_cutOne_83 rfl ?_
  refine j_if_eq C 103 dX8_cutOne_85 rfl h (fun c37 h => ?_) (fun c37 h => ?_)
  · exact X8_cutOne_J103_ok C hlv h
  · refine j_aload_n C dX8_cutOne_88 rfl ?_
    refine j_iload_n C dX8_cutOne_89 rfl ?_
    refine j_iconst C dX8_cutOne_90 rfl ?_
    refine j_isub C dX8_cutOne_91 ?_
    refine j_iald C dX8_cutOne_92 rfl h (fun t34 h => ?_)
    obtain ⟨p35, ep35, h⟩ := bind_some h
    have qp35 := X8_isLetter_ct ep35
    refine j_cSI C dX8_cutOne_93 sl_X8_59 qp35 (by omega) rfl rfl (Nat.le_of_ble_eq_true rfl) ?_
    refine j_if_eq C 103 dX8_cutOne_96 rfl h (fun c36 h => ?_) (fun c36 h => ?_)
    · exact X8_cutOne_J103_ok C hlv h
    · exact X8_cutOne_J99_ok C hlv h
set_option maxRecDepth 100000 in
set_option maxHeartbeats 4000000 in
theorem X8_cutOne_ct {N : Nat} {l0 : Nat} {l1 : Nat} {l2 : Int} {l3 : Int} {m : Mem} {out : (Int × Mem)} (h : X8_cutOne N l0 l1 l2 l3 m = some out) : shK l0 = 8 + 10 ∧ CT yX8_cutOne cX8_cutOne 8 (some .int) 3 0 0 [vR l0, vR l1, vI l2, vI l3] 312 m (some (vI out.1)) 312 out.2 := by
  unfold X8_cutOne at h
  obtain ⟨hK, h⟩ := ite_some h
  have hlv : 2 < 3 := by decide
  refine ⟨hK, CT.of (by decide +kernel) rfl (Nat.le_of_ble_eq_true rfl) (ls := [some (vR l0), some (vR l1), some (vI l2), some (vI l3), none, none, none, none]) rfl fun g w C _ => ?_⟩
  refine j_aload_n C dX8_cutOne_0 rfl ?_
  refine j_iload_n C dX8_cutOne_1 rfl ?_
  refine j_iald C dX8_cutOne_2 rfl h (fun t1 h => ?_)
  obtain ⟨p2, ep2, h⟩ := bind_some h
  have qp2 := X8_isLetter_ct ep2
  refine j_cSI C dX8_cutOne_3 sl_X8_59 qp2 (by omega) rfl rfl (Nat.le_of_ble_eq_true rfl) ?_
  refine j_istore (ls' := [some (vR _), some (vR _), some (vI _), some (vI _), some (vI _), none, none, none]) C dX8_cutOne_6 (by decide) rfl ?_
  refine j_aload_n C dX8_cutOne_8 rfl ?_
  refine j_iload_n C dX8_cutOne_9 rfl ?_
  refine j_iald C dX8_cutOne_10 rfl h (fun t3 h => ?_)
  obtain ⟨p4, ep4, h⟩ := bind_some h
  have qp4 := X8_isDigit_ct ep4
  refine j_cSI C dX8_cutOne_11 sl_X8_62 qp4 (by omega) rfl rfl (Nat.le_of_ble_eq_true rfl) ?_
  refine j_istore (ls' := [some (vR _), some (vR _), some (vI _), some (vI _), some (vI _), some (vI _), none, none]) C dX8_cutOne_14 (by decide) rfl ?_
  refine j_iload_n C dX8_cutOne_16 rfl ?_
  refine j_iconst C dX8_cutOne_17 rfl ?_
  refine j_iadd C dX8_cutOne_18 ?_
  refine j_istore (ls' := [some (vR _), some (vR _), some (vI _), some (vI _), some (vI _), some (vI _), some (vI _), none]) C dX8_cutOne_19 (by decide) rfl ?_
  refine X8_cutOne_L21_ok C hlv (fun z14 z15 z16 z17 z18 z19 m20 h => ?_) N h
  refine j_iload_n C dX8_cutOne_63 rfl ?_
  refine j_if_le C 103 dX8_cutOne_64 rfl h (fun c42 h => ?_) (fun c42 h => ?_)
  · exact X8_cutOne_J103_ok C hlv h
  · refine j_iload C dX8_cutOne_67 rfl ?_
    refine j_if_eq C 83 dX8_cutOne_69 rfl h (fun c41 h => ?_) (fun c41 h => ?_)
    · exact X8_cutOne_J83_ok C hlv h
    · refine j_aload_n C dX8_cutOne_72 rfl ?_
      refine j_iload_n C dX8_cutOne_73 rfl ?_
      refine j_iconst C dX8_cutOne_74 rfl ?_
      refine j_isub C dX8_cutOne_75 ?_
      refine j_iald C dX8_cutOne_76 rfl h (fun t38 h => ?_)
      obtain ⟨p39, ep39, h⟩ := bind_some h
      have qp39 := X8_isDigit_ct ep39
      refine j_cSI C dX8_cutOne_77 sl_X8_62 qp39 (by omega) rfl rfl (Nat.le_of_ble_eq_true rfl) ?_
      refine j_if_ne C 99 dX8_cutOne_80 rfl h (fun c40 h => ?_) (fun c40 h => ?_)
      · exact X8_cutOne_J99_ok C hlv h
      · exact X8_cutOne_J83_ok C hlv h
theorem dX8_cut_0 : decode cX8_cut 0 = .ok (.aload_n 0, 1) := by decide +kernel
theorem dX8_cut_1 : decode cX8_cut 1 = .ok (.iconst 0, 1) := by decide +kernel
theorem dX8_cut_2 : decode cX8_cut 2 = .ok (.putfield 18, 3) := by decide +kernel
theorem dX8_cut_5 : decode cX8_cut 5 = .ok (.aload_n 0, 1) := by decide +kernel
theorem dX8_cut_6 : decode cX8_cut 6 = .ok (.iconst 0, 1) := by decide +kernel
theorem dX8_cut_7 : decode cX8_cut 7 = .ok (.putfield 22, 3) := by decide +kernel
theorem dX8_cut_10 : decode cX8_cut 10 = .ok (.aload_n 0, 1) := by decide +kernel
theorem dX8_cut_11 : decode cX8_cut 11 = .ok (.iconst 0, 1) := by decide +kernel
theorem dX8_cut_12 : decode cX8_cut 12 = .ok (.putfield 25, 3) := by decide +kernel
theorem dX8_cut_15 : decode cX8_cut 15 = .ok (.iconst 0, 1) := by decide +kernel
theorem dX8_cut_16 : decode cX8_cut 16 = .ok (.istore_n 3, 1) := by decide +kernel
theorem dX8_cut_17 : decode cX8_cut 17 = .ok (.iconst 0, 1) := by decide +kernel
theorem dX8_cut_18 : decode cX8_cut 18 = .ok (.istore 4, 2) := by decide +kernel
theorem dX8_cut_20 : decode cX8_cut 20 = .ok (.iload 4, 2) := by decide +kernel
theorem dX8_cut_22 : decode cX8_cut 22 = .ok (.iload_n 2, 1) := by decide +kernel
theorem dX8_cut_23 : decode cX8_cut 23 = .ok (.if_icmp .ge 46, 3) := by decide +kernel
theorem dX8_cut_26 : decode cX8_cut 26 = .ok (.iload_n 3, 1) := by decide +kernel
theorem dX8_cut_27 : decode cX8_cut 27 = .ok (.iload_n 2, 1) := by decide +kernel
theorem dX8_cut_28 : decode cX8_cut 28 = .ok (.if_icmp .ge 41, 3) := by decide +kernel
theorem dX8_cut_31 : decode cX8_cut 31 = .ok (.aload_n 0, 1) := by decide +kernel
theorem dX8_cut_32 : decode cX8_cut 32 = .ok (.getfield 22, 3) := by decide +kernel
theorem dX8_cut_35 : decode cX8_cut 35 = .ok (.bipush 6, 2) := by decide +kernel
theorem dX8_cut_37 : decode cX8_cut 37 = .ok (.if_icmp .eq 32, 3) := by decide +kernel
theorem dX8_cut_40 : decode cX8_cut 40 = .ok (.aload_n 1, 1) := by decide +kernel
theorem dX8_cut_41 : decode cX8_cut 41 = .ok (.iload_n 3, 1) := by decide +kernel
theorem dX8_cut_42 : decode cX8_cut 42 = .ok (.iaload, 1) := by decide +kernel
theorem dX8_cut_43 : decode cX8_cut 43 = .ok (.invokestatic 47, 3) := by decide +kernel
theorem dX8_cut_46 : decode cX8_cut 46 = .ok (.ifCond .eq 9, 3) := by decide +kernel
theorem dX8_cut_49 : decode cX8_cut 49 = .ok (.iload_n 3, 1) := by decide +kernel
theorem dX8_cut_50 : decode cX8_cut 50 = .ok (.iconst 1, 1) := by decide +kernel
theorem dX8_cut_51 : decode cX8_cut 51 = .ok (.iadd, 1) := by decide +kernel
theorem dX8_cut_52 : decode cX8_cut 52 = .ok (.goto 10, 3) := by decide +kernel
theorem dX8_cut_55 : decode cX8_cut 55 = .ok (.aload_n 0, 1) := by decide +kernel
theorem dX8_cut_56 : decode cX8_cut 56 = .ok (.aload_n 1, 1) := by decide +kernel
theorem dX8_cut_57 : decode cX8_cut 57 = .ok (.iload_n 2, 1) := by decide +kernel
theorem dX8_cut_58 : decode cX8_cut 58 = .ok (.iload_n 3, 1) := by decide +kernel
theorem dX8_cut_59 : decode cX8_cut 59 = .ok (.invokevirtual 51, 3) := by decide +kernel
theorem dX8_cut_62 : decode cX8_cut 62 = .ok (.istore_n 3, 1) := by decide +kernel
theorem dX8_cut_63 : decode cX8_cut 63 = .ok (.iinc 4 1, 3) := by decide +kernel
theorem dX8_cut_66 : decode cX8_cut 66 = .ok (.goto (-46), 3) := by decide +kernel
theorem dX8_cut_69 : decode cX8_cut 69 = .ok (.aload_n 0, 1) := by decide +kernel
theorem dX8_cut_70 : decode cX8_cut 70 = .ok (.getfield 22, 3) := by decide +kernel
theorem dX8_cut_73 : decode cX8_cut 73 = .ok (.bipush 6, 2) := by decide +kernel
theorem dX8_cut_75 : decode cX8_cut 75 = .ok (.if_icmp .eq 10, 3) := by decide +kernel
theorem dX8_cut_78 : decode cX8_cut 78 = .ok (.aload_n 0, 1) := by decide +kernel
theorem dX8_cut_79 : decode cX8_cut 79 = .ok (.iconst 0, 1) := by decide +kernel
theorem dX8_cut_80 : decode cX8_cut 80 = .ok (.iload_n 2, 1) := by decide +kernel
theorem dX8_cut_81 : decode cX8_cut 81 = .ok (.iload_n 2, 1) := by decide +kernel
theorem dX8_cut_82 : decode cX8_cut 82 = .ok (.invokevirtual 55, 3) := by decide +kernel
theorem dX8_cut_85 : decode cX8_cut 85 = .ok (.return_, 1) := by decide +kernel
set_option maxRecDepth 100000 in
set_option maxHeartbeats 4000000 in
theorem X8_cut_J62_ok {g : Gm} {w : Wd} (C : Cx g w RX8 cX8_cut 5 none) {lv : Nat} (hlv : 3 < lv) {N : Nat} {r20 : Nat → Nat → Int → Int → Int → Mem → Option Mem } {l0 : Nat} {l1 : Nat} {l2 : Int} {l4 : Int} {s0 : Int} {m : Mem} {out : Mem} (hr20 : ∀ l0 l1 l2 l3 l4 m, r20 l0 l1 l2 l3 l4 m = some out → Jd g w 5 (rmL lv 0 0) (Qm g w none out) 20 [some (vR l0), some (vR l1), some (vI l2), some (vI l3), some (vI l4)] [] 312 m 0 0) (h : X8_cut_J62 N r20 l0 l1 l2 l4 s0 m = some out) : Jd g w 5 (rmL lv 0 0) (Qm g w none out) 62 [some (vR l0), some (vR l1), some (vI l2), none, some (vI l4)] [vI s0] 312 m 0 0 := by
  unfold X8_cut_J62 at h
  refine j_istore_n (ls' := [some (vR _), some (vR _), some (vI _), some (vI _), some (vI _)]) C dX8_cut_62 (by decide) rfl ?_
  refine j_iinc (ls' := [some (vR _), some (vR _), some (vI _), some (vI _), some (vI _)]) C dX8_cut_63 rfl (by decide) rfl ?_
  refine j_goto C 20 dX8_cut_66 rfl ?_
  exact hr20 _ _ _ _ _ _ h
set_option maxRecDepth 100000 in
set_option maxHeartbeats 4000000 in
theorem X8_cut_L20_bok {g : Gm} {w : Wd} (C : Cx g w RX8 cX8_cut 5 none) {lv : Nat} (hlv : 3 < lv) {N : Nat} {k69 : Nat → Int → Mem → Option Mem} {r20 : Nat → Nat → Int → Int → Int → Mem → Option Mem} {l0 : Nat} {l1 : Nat} {l2 : Int} {l3 : Int} {l4 : Int} {m : Mem} {out : Mem} (hk69 : ∀ l0 l2 m, k69 l0 l2 m = some out → Jd g w 5 (rmL lv 0 0) (Qm g w none out) 69 [some (vR l0), none, some (vI l2), none, none] [] 312 m 0 0) (hr20 : ∀ l0 l1 l2 l3 l4 m, r20 l0 l1 l2 l3 l4 m = some out → Jd g w 5 (rmL lv 0 0) (Qm g w none out) 20 [some (vR l0), some (vR l1), some (vI l2), some (vI l3), some (vI l4)] [] 312 m 0 0) (h : X8_cut_L20_b N k69 r20 l0 l1 l2 l3 l4 m = some out) : Jd g w 5 (rmL lv 0 0) (Qm g w none out) 20 [some (vR l0), some (vR l1), some (vI l2), some (vI l3), some (vI l4)] [] 312 m 0 0 := by
  unfold X8_cut_L20_b at h
  refine j_iload C dX8_cut_20 rfl ?_
  refine j_iload_n C dX8_cut_22 rfl ?_
  refine j_icmp_ge C 69 dX8_cut_23 rfl h (fun c11 h => ?_) (fun c11 h => ?_)
  · refine j_mask [true, false, true, false, false] (ls' := [some (vR _), none, some (vI _), none, none]) rfl ?_
    exact hk69 _ _ _ h
  · refine j_iload_n C dX8_cut_26 rfl ?_
    refine j_iload_n C dX8_cut_27 rfl ?_
    refine j_icmp_ge C 69 dX8_cut_28 rfl h (fun c10 h => ?_) (fun c10 h => ?_)
    · refine j_mask [true, false, true, false, false] (ls' := [some (vR _), none, some (vI _), none, none]) rfl ?_
      exact hk69 _ _ _ h
    · refine j_aload_n C dX8_cut_31 rfl ?_
      refine j_getI C dX8_cut_32 CF8 (by decide) fl_X8_22 rfl rfl h (fun t4 h => ?_)
      refine j_bipush C dX8_cut_35 rfl ?_
      refine j_icmp_eq C 69 dX8_cut_37 rfl h (fun c9 h => ?_) (fun c9 h => ?_)
      · refine j_mask [true, false, true, false, false] (ls' := [some (vR _), none, some (vI _), none, none]) rfl ?_
        exact hk69 _ _ _ h
      · refine j_aload_n C dX8_cut_40 rfl ?_
        refine j_iload_n C dX8_cut_41 rfl ?_
        refine j_iald C dX8_cut_42 rfl h (fun t5 h => ?_)
        obtain ⟨p6, ep6, h⟩ := bind_some h
        have qp6 := X8_isBlank_ct ep6
        refine j_cSI C dX8_cut_43 sl_X8_47 qp6 (by omega) rfl rfl (Nat.le_of_ble_eq_true rfl) ?_
        refine j_if_eq C 55 dX8_cut_46 rfl h (fun c8 h => ?_) (fun c8 h => ?_)
        · refine j_aload_n C dX8_cut_55 rfl ?_
          refine j_aload_n C dX8_cut_56 rfl ?_
          refine j_iload_n C dX8_cut_57 rfl ?_
          refine j_iload_n C dX8_cut_58 rfl ?_
          obtain ⟨p7, ep7, h⟩ := bind_some h
          have qp7 := X8_cutOne_ct ep7
          refine j_cVI C dX8_cut_59 vl_X8_51 CF8 rfl qp7.1 qp7.2 (by omega) rfl rfl (Nat.le_of_ble_eq_true rfl) ?_
          refine j_mask [true, true, true, false, true] (ls' := [some (vR _), some (vR _), some (vI _), none, some (vI _)]) rfl ?_
          exact X8_cut_J62_ok C hlv hr20 h
        · refine j_iload_n C dX8_cut_49 rfl ?_
          refine j_iconst C dX8_cut_50 rfl ?_
          refine j_iadd C dX8_cut_51 ?_
          refine j_goto C 62 dX8_cut_52 rfl ?_
          refine j_mask [true, true, true, false, true] (ls' := [some (vR _), some (vR _), some (vI _), none, some (vI _)]) rfl ?_
          exact X8_cut_J62_ok C hlv hr20 h
set_option maxRecDepth 100000 in
set_option maxHeartbeats 4000000 in
theorem X8_cut_L20_ok {g : Gm} {w : Wd} (C : Cx g w RX8 cX8_cut 5 none) {lv : Nat} (hlv : 3 < lv) {N : Nat} {k69 : Nat → Int → Mem → Option Mem} {out : Mem} (hk69 : ∀ l0 l2 m, k69 l0 l2 m = some out → Jd g w 5 (rmL lv 0 0) (Qm g w none out) 69 [some (vR l0), none, some (vI l2), none, none] [] 312 m 0 0) (f : Nat) : ∀ {l0 : Nat} {l1 : Nat} {l2 : Int} {l3 : Int} {l4 : Int} {m : Mem}, X8_cut_L20 N k69 f l0 l1 l2 l3 l4 m = some out → Jd g w 5 (rmL lv 0 0) (Qm g w none out) 20 [some (vR l0), some (vR l1), some (vI l2), some (vI l3), some (vI l4)] [] 312 m 0 0 := by
  induction f with
  | zero => intro l0 l1 l2 l3 l4 m h; exact none_ne (α := Mem) h
  | succ f ih => intro l0 l1 l2 l3 l4 m h; exact X8_cut_L20_bok C hlv hk69 (fun l0 l1 l2 l3 l4 m h => ih h) h
set_option maxRecDepth 100000 in
set_option maxHeartbeats 4000000 in
theorem X8_cut_ct {N : Nat} {l0 : Nat} {l1 : Nat} {l2 : Int} {m : Mem} {out : Mem} (h : X8_cut N l0 l1 l2 m = some out) : shK l0 = 8 + 10 ∧ CT yX8_cut cX8_cut 5 none 4 0 0 [vR l0, vR l1, vI l2] 312 m none 312 out := by
  unfold X8_cut at h
  obtain ⟨hK, h⟩ := ite_some h
  have hlv : 3 < 4 := by decide
  refine ⟨hK, CT.of (by decide +kernel) rfl (Nat.le_of_ble_eq_true rfl) (ls := [some (vR l0), some (vR l1), some (vI l2), none, none]) rfl fun g w C _ => ?_⟩
  refine j_aload_n C dX8_cut_0 rfl ?_
  refine j_iconst C dX8_cut_1 rfl ?_
  refine j_putI C dX8_cut_2 CF8 (by decide) fl_X8_18 rfl rfl rfl rfl h (fun m1 h => ?_)
  refine j_aload_n C dX8_cut_5 rfl ?_
  refine j_iconst C dX8_cut_6 rfl ?_
  refine j_putI C dX8_cut_7 CF8 (by decide) fl_X8_22 rfl rfl rfl rfl h (fun m2 h => ?_)
  refine j_aload_n C dX8_cut_10 rfl ?_
  refine j_iconst C dX8_cut_11 rfl ?_
  refine j_putZ C dX8_cut_12 CF8 (by decide) fl_X8_25 rfl rfl rfl rfl h (fun m3 h => ?_)
  refine j_iconst C dX8_cut_15 rfl ?_
  refine j_istore_n (ls' := [some (vR _), some (vR _), some (vI _), some (vI _), none]) C dX8_cut_16 (by decide) rfl ?_
  refine j_iconst C dX8_cut_17 rfl ?_
  refine j_istore (ls' := [some (vR _), some (vR _), some (vI _), some (vI _), some (vI _)]) C dX8_cut_18 (by decide) rfl ?_
  refine X8_cut_L20_ok C hlv (fun z12 z13 m14 h => ?_) N h
  refine j_aload_n C dX8_cut_69 rfl ?_
  refine j_getI C dX8_cut_70 CF8 (by decide) fl_X8_22 rfl rfl h (fun t15 h => ?_)
  refine j_bipush C dX8_cut_73 rfl ?_
  refine j_icmp_eq C 85 dX8_cut_75 rfl h (fun c17 h => ?_) (fun c17 h => ?_)
  · have e := Option.some.inj h
    subst e
    exact j_rv C dX8_cut_85 rfl rfl
  · refine j_aload_n C dX8_cut_78 rfl ?_
    refine j_iconst C dX8_cut_79 rfl ?_
    refine j_iload_n C dX8_cut_80 rfl ?_
    refine j_iload_n C dX8_cut_81 rfl ?_
    obtain ⟨p16, ep16, h⟩ := bind_some h
    have qp16 := X8_put_ct ep16
    refine j_cVV C dX8_cut_82 vl_X8_55 CF8 rfl qp16.1 qp16.2 (by omega) rfl rfl (Nat.le_of_ble_eq_true rfl) ?_
    have e := Option.some.inj h
    subst e
    exact j_rv C dX8_cut_85 rfl rfl
theorem dX1_clear_0 : decode cX1_clear 0 = .ok (.aload_n 0, 1) := by decide +kernel
theorem dX1_clear_1 : decode cX1_clear 1 = .ok (.getfield 9, 3) := by decide +kernel
theorem dX1_clear_4 : decode cX1_clear 4 = .ok (.iconst 0, 1) := by decide +kernel
theorem dX1_clear_5 : decode cX1_clear 5 = .ok (.invokestatic 25, 3) := by decide +kernel
theorem dX1_clear_8 : decode cX1_clear 8 = .ok (.aload_n 0, 1) := by decide +kernel
theorem dX1_clear_9 : decode cX1_clear 9 = .ok (.getfield 15, 3) := by decide +kernel
theorem dX1_clear_12 : decode cX1_clear 12 = .ok (.iconst 0, 1) := by decide +kernel
theorem dX1_clear_13 : decode cX1_clear 13 = .ok (.invokestatic 25, 3) := by decide +kernel
theorem dX1_clear_16 : decode cX1_clear 16 = .ok (.aload_n 0, 1) := by decide +kernel
theorem dX1_clear_17 : decode cX1_clear 17 = .ok (.getfield 18, 3) := by decide +kernel
theorem dX1_clear_20 : decode cX1_clear 20 = .ok (.iconst 0, 1) := by decide +kernel
theorem dX1_clear_21 : decode cX1_clear 21 = .ok (.invokestatic 25, 3) := by decide +kernel
theorem dX1_clear_24 : decode cX1_clear 24 = .ok (.aload_n 0, 1) := by decide +kernel
theorem dX1_clear_25 : decode cX1_clear 25 = .ok (.iconst 0, 1) := by decide +kernel
theorem dX1_clear_26 : decode cX1_clear 26 = .ok (.putfield 21, 3) := by decide +kernel
theorem dX1_clear_29 : decode cX1_clear 29 = .ok (.return_, 1) := by decide +kernel
set_option maxRecDepth 100000 in
set_option maxHeartbeats 4000000 in
theorem X1_clear_ct {N : Nat} {l0 : Nat} {m : Mem} {out : Mem} (h : X1_clear N l0 m = some out) : shK l0 = 1 + 10 ∧ CT yX1_clear cX1_clear 1 none 2 0 0 [vR l0] 312 m none 312 out := by
  unfold X1_clear at h
  obtain ⟨hK, h⟩ := ite_some h
  have hlv : 1 < 2 := by decide
  refine ⟨hK, CT.of (by decide +kernel) rfl (Nat.le_of_ble_eq_true rfl) (ls := [some (vR l0)]) rfl fun g w C _ => ?_⟩
  refine j_aload_n C dX1_clear_0 rfl ?_
  refine j_getR C dX1_clear_1 CF1 (by decide) fl_X1_9 rfl rfl h (fun t1 h => ?_)
  refine j_iconst C dX1_clear_4 rfl ?_
  obtain ⟨p2, ep2, h⟩ := bind_some h
  have qp2 := J7_fill_53178_ct ep2
  refine j_cSV C dX1_clear_5 sl_X1_25 qp2 (by omega) rfl rfl (Nat.le_of_ble_eq_true rfl) ?_
  refine j_aload_n C dX1_clear_8 rfl ?_
  refine j_getR C dX1_clear_9 CF1 (by decide) fl_X1_15 rfl rfl h (fun t3 h => ?_)
  refine j_iconst C dX1_clear_12 rfl ?_
  obtain ⟨p4, ep4, h⟩ := bind_some h
  have qp4 := J7_fill_53178_ct ep4
  refine j_cSV C dX1_clear_13 sl_X1_25 qp4 (by omega) rfl rfl (Nat.le_of_ble_eq_true rfl) ?_
  refine j_aload_n C dX1_clear_16 rfl ?_
  refine j_getR C dX1_clear_17 CF1 (by decide) fl_X1_18 rfl rfl h (fun t5 h => ?_)
  refine j_iconst C dX1_clear_20 rfl ?_
  obtain ⟨p6, ep6, h⟩ := bind_some h
  have qp6 := J7_fill_53178_ct ep6
  refine j_cSV C dX1_clear_21 sl_X1_25 qp6 (by omega) rfl rfl (Nat.le_of_ble_eq_true rfl) ?_
  refine j_aload_n C dX1_clear_24 rfl ?_
  refine j_iconst C dX1_clear_25 rfl ?_
  refine j_putI C dX1_clear_26 CF1 (by decide) fl_X1_21 rfl rfl rfl rfl h (fun m7 h => ?_)
  have e := Option.some.inj h
  subst e
  exact j_rv C dX1_clear_29 rfl rfl
theorem dX7_clear_0 : decode cX7_clear 0 = .ok (.aload_n 0, 1) := by decide +kernel
theorem dX7_clear_1 : decode cX7_clear 1 = .ok (.iconst 0, 1) := by decide +kernel
theorem dX7_clear_2 : decode cX7_clear 2 = .ok (.putfield 15, 3) := by decide +kernel
theorem dX7_clear_5 : decode cX7_clear 5 = .ok (.aload_n 0, 1) := by decide +kernel
theorem dX7_clear_6 : decode cX7_clear 6 = .ok (.getfield 22, 3) := by decide +kernel
theorem dX7_clear_9 : decode cX7_clear 9 = .ok (.iconst 0, 1) := by decide +kernel
theorem dX7_clear_10 : decode cX7_clear 10 = .ok (.invokestatic 31, 3) := by decide +kernel
theorem dX7_clear_13 : decode cX7_clear 13 = .ok (.aload_n 0, 1) := by decide +kernel
theorem dX7_clear_14 : decode cX7_clear 14 = .ok (.getfield 25, 3) := by decide +kernel
theorem dX7_clear_17 : decode cX7_clear 17 = .ok (.iconst 0, 1) := by decide +kernel
theorem dX7_clear_18 : decode cX7_clear 18 = .ok (.invokestatic 31, 3) := by decide +kernel
theorem dX7_clear_21 : decode cX7_clear 21 = .ok (.return_, 1) := by decide +kernel
set_option maxRecDepth 100000 in
set_option maxHeartbeats 4000000 in
theorem X7_clear_ct {N : Nat} {l0 : Nat} {m : Mem} {out : Mem} (h : X7_clear N l0 m = some out) : shK l0 = 7 + 10 ∧ CT yX7_clear cX7_clear 1 none 2 0 0 [vR l0] 312 m none 312 out := by
  unfold X7_clear at h
  obtain ⟨hK, h⟩ := ite_some h
  have hlv : 1 < 2 := by decide
  refine ⟨hK, CT.of (by decide +kernel) rfl (Nat.le_of_ble_eq_true rfl) (ls := [some (vR l0)]) rfl fun g w C _ => ?_⟩
  refine j_aload_n C dX7_clear_0 rfl ?_
  refine j_iconst C dX7_clear_1 rfl ?_
  refine j_putI C dX7_clear_2 CF7 (by decide) fl_X7_15 rfl rfl rfl rfl h (fun m1 h => ?_)
  refine j_aload_n C dX7_clear_5 rfl ?_
  refine j_getR C dX7_clear_6 CF7 (by decide) fl_X7_22 rfl rfl h (fun t2 h => ?_)
  refine j_iconst C dX7_clear_9 rfl ?_
  obtain ⟨p3, ep3, h⟩ := bind_some h
  have qp3 := J7_fill_53178_ct ep3
  refine j_cSV C dX7_clear_10 sl_X7_31 qp3 (by omega) rfl rfl (Nat.le_of_ble_eq_true rfl) ?_
  refine j_aload_n C dX7_clear_13 rfl ?_
  refine j_getR C dX7_clear_14 CF7 (by decide) fl_X7_25 rfl rfl h (fun t4 h => ?_)
  refine j_iconst C dX7_clear_17 rfl ?_
  obtain ⟨p5, ep5, h⟩ := bind_some h
  have qp5 := J7_fill_53178_ct ep5
  refine j_cSV C dX7_clear_18 sl_X7_31 qp5 (by omega) rfl rfl (Nat.le_of_ble_eq_true rfl) ?_
  have e := Option.some.inj h
  subst e
  exact j_rv C dX7_clear_21 rfl rfl
theorem dX5_clear_0 : decode cX5_clear 0 = .ok (.aload_n 0, 1) := by decide +kernel
theorem dX5_clear_1 : decode cX5_clear 1 = .ok (.iconst 0, 1) := by decide +kernel
theorem dX5_clear_2 : decode cX5_clear 2 = .ok (.putfield 9, 3) := by decide +kernel
theorem dX5_clear_5 : decode cX5_clear 5 = .ok (.aload_n 0, 1) := by decide +kernel
theorem dX5_clear_6 : decode cX5_clear 6 = .ok (.iconst 0, 1) := by decide +kernel
theorem dX5_clear_7 : decode cX5_clear 7 = .ok (.putfield 15, 3) := by decide +kernel
theorem dX5_clear_10 : decode cX5_clear 10 = .ok (.aload_n 0, 1) := by decide +kernel
theorem dX5_clear_11 : decode cX5_clear 11 = .ok (.getfield 23, 3) := by decide +kernel
theorem dX5_clear_14 : decode cX5_clear 14 = .ok (.iconst 0, 1) := by decide +kernel
theorem dX5_clear_15 : decode cX5_clear 15 = .ok (.invokestatic 83, 3) := by decide +kernel
theorem dX5_clear_18 : decode cX5_clear 18 = .ok (.aload_n 0, 1) := by decide +kernel
theorem dX5_clear_19 : decode cX5_clear 19 = .ok (.getfield 27, 3) := by decide +kernel
theorem dX5_clear_22 : decode cX5_clear 22 = .ok (.iconst 0, 1) := by decide +kernel
theorem dX5_clear_23 : decode cX5_clear 23 = .ok (.invokestatic 83, 3) := by decide +kernel
theorem dX5_clear_26 : decode cX5_clear 26 = .ok (.aload_n 0, 1) := by decide +kernel
theorem dX5_clear_27 : decode cX5_clear 27 = .ok (.getfield 33, 3) := by decide +kernel
theorem dX5_clear_30 : decode cX5_clear 30 = .ok (.invokevirtual 89, 3) := by decide +kernel
theorem dX5_clear_33 : decode cX5_clear 33 = .ok (.aload_n 0, 1) := by decide +kernel
theorem dX5_clear_34 : decode cX5_clear 34 = .ok (.iconst 0, 1) := by decide +kernel
theorem dX5_clear_35 : decode cX5_clear 35 = .ok (.putfield 37, 3) := by decide +kernel
theorem dX5_clear_38 : decode cX5_clear 38 = .ok (.aload_n 0, 1) := by decide +kernel
theorem dX5_clear_39 : decode cX5_clear 39 = .ok (.iconst 0, 1) := by decide +kernel
theorem dX5_clear_40 : decode cX5_clear 40 = .ok (.putfield 46, 3) := by decide +kernel
theorem dX5_clear_43 : decode cX5_clear 43 = .ok (.aload_n 0, 1) := by decide +kernel
theorem dX5_clear_44 : decode cX5_clear 44 = .ok (.iconst 0, 1) := by decide +kernel
theorem dX5_clear_45 : decode cX5_clear 45 = .ok (.putfield 55, 3) := by decide +kernel
theorem dX5_clear_48 : decode cX5_clear 48 = .ok (.aload_n 0, 1) := by decide +kernel
theorem dX5_clear_49 : decode cX5_clear 49 = .ok (.getfield 64, 3) := by decide +kernel
theorem dX5_clear_52 : decode cX5_clear 52 = .ok (.iconst 0, 1) := by decide +kernel
theorem dX5_clear_53 : decode cX5_clear 53 = .ok (.invokestatic 83, 3) := by decide +kernel
theorem dX5_clear_56 : decode cX5_clear 56 = .ok (.aload_n 0, 1) := by decide +kernel
theorem dX5_clear_57 : decode cX5_clear 57 = .ok (.getfield 70, 3) := by decide +kernel
theorem dX5_clear_60 : decode cX5_clear 60 = .ok (.invokevirtual 92, 3) := by decide +kernel
theorem dX5_clear_63 : decode cX5_clear 63 = .ok (.aload_n 0, 1) := by decide +kernel
theorem dX5_clear_64 : decode cX5_clear 64 = .ok (.iconst 0, 1) := by decide +kernel
theorem dX5_clear_65 : decode cX5_clear 65 = .ok (.putfield 74, 3) := by decide +kernel
theorem dX5_clear_68 : decode cX5_clear 68 = .ok (.aload_n 0, 1) := by decide +kernel
theorem dX5_clear_69 : decode cX5_clear 69 = .ok (.iconst 0, 1) := by decide +kernel
theorem dX5_clear_70 : decode cX5_clear 70 = .ok (.putfield 77, 3) := by decide +kernel
theorem dX5_clear_73 : decode cX5_clear 73 = .ok (.aload_n 0, 1) := by decide +kernel
theorem dX5_clear_74 : decode cX5_clear 74 = .ok (.iconst 5, 1) := by decide +kernel
theorem dX5_clear_75 : decode cX5_clear 75 = .ok (.putfield 80, 3) := by decide +kernel
theorem dX5_clear_78 : decode cX5_clear 78 = .ok (.return_, 1) := by decide +kernel
set_option maxRecDepth 100000 in
set_option maxHeartbeats 4000000 in
theorem X5_clear_ct {N : Nat} {l0 : Nat} {m : Mem} {out : Mem} (h : X5_clear N l0 m = some out) : shK l0 = 5 + 10 ∧ CT yX5_clear cX5_clear 1 none 3 0 0 [vR l0] 312 m none 312 out := by
  unfold X5_clear at h
  obtain ⟨hK, h⟩ := ite_some h
  have hlv : 2 < 3 := by decide
  refine ⟨hK, CT.of (by decide +kernel) rfl (Nat.le_of_ble_eq_true rfl) (ls := [some (vR l0)]) rfl fun g w C _ => ?_⟩
  refine j_aload_n C dX5_clear_0 rfl ?_
  refine j_iconst C dX5_clear_1 rfl ?_
  refine j_putI C dX5_clear_2 CF5 (by decide) fl_X5_9 rfl rfl rfl rfl h (fun m1 h => ?_)
  refine j_aload_n C dX5_clear_5 rfl ?_
  refine j_iconst C dX5_clear_6 rfl ?_
  refine j_putI C dX5_clear_7 CF5 (by decide) fl_X5_15 rfl rfl rfl rfl h (fun m2 h => ?_)
  refine j_aload_n C dX5_clear_10 rfl ?_
  refine j_getR C dX5_clear_11 CF5 (by decide) fl_X5_23 rfl rfl h (fun t3 h => ?_)
  refine j_iconst C dX5_clear_14 rfl ?_
  obtain ⟨p4, ep4, h⟩ := bind_some h
  have qp4 := J7_fill_53178_ct ep4
  refine j_cSV C dX5_clear_15 sl_X5_83 qp4 (by omega) rfl rfl (Nat.le_of_ble_eq_true rfl) ?_
  refine j_aload_n C dX5_clear_18 rfl ?_
  refine j_getR C dX5_clear_19 CF5 (by decide) fl_X5_27 rfl rfl h (fun t5 h => ?_)
  refine j_iconst C dX5_clear_22 rfl ?_
  obtain ⟨p6, ep6, h⟩ := bind_some h
  have qp6 := J7_fill_53178_ct ep6
  refine j_cSV C dX5_clear_23 sl_X5_83 qp6 (by omega) rfl rfl (Nat.le_of_ble_eq_true rfl) ?_
  refine j_aload_n C dX5_clear_26 rfl ?_
  refine j_getR C dX5_clear_27 CF5 (by decide) fl_X5_33 rfl rfl h (fun t7 h => ?_)
  obtain ⟨p8, ep8, h⟩ := bind_some h
  have qp8 := X1_clear_ct ep8
  refine j_cVV C dX5_clear_30 vl_X5_89 CF1 rfl qp8.1 qp8.2 (by omega) rfl rfl (Nat.le_of_ble_eq_true rfl) ?_
  refine j_aload_n C dX5_clear_33 rfl ?_
  refine j_iconst C dX5_clear_34 rfl ?_
  refine j_putI C dX5_clear_35 CF5 (by decide) fl_X5_37 rfl rfl rfl rfl h (fun m9 h => ?_)
  refine j_aload_n C dX5_clear_38 rfl ?_
  refine j_iconst C dX5_clear_39 rfl ?_
  refine j_putI C dX5_clear_40 CF5 (by decide) fl_X5_46 rfl rfl rfl rfl h (fun m10 h => ?_)
  refine j_aload_n C dX5_clear_43 rfl ?_
  refine j_iconst C dX5_clear_44 rfl ?_
  refine j_putI C dX5_clear_45 CF5 (by decide) fl_X5_55 rfl rfl rfl rfl h (fun m11 h => ?_)
  refine j_aload_n C dX5_clear_48 rfl ?_
  refine j_getR C dX5_clear_49 CF5 (by decide) fl_X5_64 rfl rfl h (fun t12 h => ?_)
  refine j_iconst C dX5_clear_52 rfl ?_
  obtain ⟨p13, ep13, h⟩ := bind_some h
  have qp13 := J7_fill_53178_ct ep13
  refine j_cSV C dX5_clear_53 sl_X5_83 qp13 (by omega) rfl rfl (Nat.le_of_ble_eq_true rfl) ?_
  refine j_aload_n C dX5_clear_56 rfl ?_
  refine j_getR C dX5_clear_57 CF5 (by decide) fl_X5_70 rfl rfl h (fun t14 h => ?_)
  obtain ⟨p15, ep15, h⟩ := bind_some h
  have qp15 := X7_clear_ct ep15
  refine j_cVV C dX5_clear_60 vl_X5_92 CF7 rfl qp15.1 qp15.2 (by omega) rfl rfl (Nat.le_of_ble_eq_true rfl) ?_
  refine j_aload_n C dX5_clear_63 rfl ?_
  refine j_iconst C dX5_clear_64 rfl ?_
  refine j_putI C dX5_clear_65 CF5 (by decide) fl_X5_74 rfl rfl rfl rfl h (fun m16 h => ?_)
  refine j_aload_n C dX5_clear_68 rfl ?_
  refine j_iconst C dX5_clear_69 rfl ?_
  refine j_putI C dX5_clear_70 CF5 (by decide) fl_X5_77 rfl rfl rfl rfl h (fun m17 h => ?_)
  refine j_aload_n C dX5_clear_73 rfl ?_
  refine j_iconst C dX5_clear_74 rfl ?_
  refine j_putI C dX5_clear_75 CF5 (by decide) fl_X5_80 rfl rfl rfl rfl h (fun m18 h => ?_)
  have e := Option.some.inj h
  subst e
  exact j_rv C dX5_clear_78 rfl rfl
theorem dX6_goTo_0 : decode cX6_goTo 0 = .ok (.iload_n 1, 1) := by decide +kernel
theorem dX6_goTo_1 : decode cX6_goTo 1 = .ok (.ifCond .lt 18, 3) := by decide +kernel
theorem dX6_goTo_4 : decode cX6_goTo 4 = .ok (.iload_n 1, 1) := by decide +kernel
theorem dX6_goTo_5 : decode cX6_goTo 5 = .ok (.aload_n 0, 1) := by decide +kernel
theorem dX6_goTo_6 : decode cX6_goTo 6 = .ok (.getfield 12, 3) := by decide +kernel
theorem dX6_goTo_9 : decode cX6_goTo 9 = .ok (.getfield 212, 3) := by decide +kernel
theorem dX6_goTo_12 : decode cX6_goTo 12 = .ok (.if_icmp .ge 7, 3) := by decide +kernel
theorem dX6_goTo_15 : decode cX6_goTo 15 = .ok (.iconst 1, 1) := by decide +kernel
theorem dX6_goTo_16 : decode cX6_goTo 16 = .ok (.goto 4, 3) := by decide +kernel
theorem dX6_goTo_19 : decode cX6_goTo 19 = .ok (.iconst 0, 1) := by decide +kernel
theorem dX6_goTo_20 : decode cX6_goTo 20 = .ok (.istore_n 2, 1) := by decide +kernel
theorem dX6_goTo_21 : decode cX6_goTo 21 = .ok (.iload_n 2, 1) := by decide +kernel
theorem dX6_goTo_22 : decode cX6_goTo 22 = .ok (.ifCond .eq 15, 3) := by decide +kernel
theorem dX6_goTo_25 : decode cX6_goTo 25 = .ok (.aload_n 0, 1) := by decide +kernel
theorem dX6_goTo_26 : decode cX6_goTo 26 = .ok (.getfield 12, 3) := by decide +kernel
theorem dX6_goTo_29 : decode cX6_goTo 29 = .ok (.getfield 215, 3) := by decide +kernel
theorem dX6_goTo_32 : decode cX6_goTo 32 = .ok (.iload_n 1, 1) := by decide +kernel
theorem dX6_goTo_33 : decode cX6_goTo 33 = .ok (.laload, 1) := by decide +kernel
theorem dX6_goTo_34 : decode cX6_goTo 34 = .ok (.goto 4, 3) := by decide +kernel
theorem dX6_goTo_37 : decode cX6_goTo 37 = .ok (.lconst 0, 1) := by decide +kernel
theorem dX6_goTo_38 : decode cX6_goTo 38 = .ok (.lstore_n 3, 1) := by decide +kernel
theorem dX6_goTo_39 : decode cX6_goTo 39 = .ok (.aload_n 0, 1) := by decide +kernel
theorem dX6_goTo_40 : decode cX6_goTo 40 = .ok (.iload_n 1, 1) := by decide +kernel
theorem dX6_goTo_41 : decode cX6_goTo 41 = .ok (.putfield 18, 3) := by decide +kernel
theorem dX6_goTo_44 : decode cX6_goTo 44 = .ok (.aload_n 0, 1) := by decide +kernel
theorem dX6_goTo_45 : decode cX6_goTo 45 = .ok (.lload_n 3, 1) := by decide +kernel
theorem dX6_goTo_46 : decode cX6_goTo 46 = .ok (.l2i, 1) := by decide +kernel
theorem dX6_goTo_47 : decode cX6_goTo 47 = .ok (.bipush 7, 2) := by decide +kernel
theorem dX6_goTo_49 : decode cX6_goTo 49 = .ok (.iand, 1) := by decide +kernel
theorem dX6_goTo_50 : decode cX6_goTo 50 = .ok (.putfield 22, 3) := by decide +kernel
theorem dX6_goTo_53 : decode cX6_goTo 53 = .ok (.aload_n 0, 1) := by decide +kernel
theorem dX6_goTo_54 : decode cX6_goTo 54 = .ok (.lload_n 3, 1) := by decide +kernel
theorem dX6_goTo_55 : decode cX6_goTo 55 = .ok (.iconst 3, 1) := by decide +kernel
theorem dX6_goTo_56 : decode cX6_goTo 56 = .ok (.lshr, 1) := by decide +kernel
theorem dX6_goTo_57 : decode cX6_goTo 57 = .ok (.l2i, 1) := by decide +kernel
theorem dX6_goTo_58 : decode cX6_goTo 58 = .ok (.sipush 2047, 3) := by decide +kernel
theorem dX6_goTo_61 : decode cX6_goTo 61 = .ok (.iand, 1) := by decide +kernel
theorem dX6_goTo_62 : decode cX6_goTo 62 = .ok (.putfield 25, 3) := by decide +kernel
theorem dX6_goTo_65 : decode cX6_goTo 65 = .ok (.aload_n 0, 1) := by decide +kernel
theorem dX6_goTo_66 : decode cX6_goTo 66 = .ok (.lload_n 3, 1) := by decide +kernel
theorem dX6_goTo_67 : decode cX6_goTo 67 = .ok (.bipush 14, 2) := by decide +kernel
theorem dX6_goTo_69 : decode cX6_goTo 69 = .ok (.lshr, 1) := by decide +kernel
theorem dX6_goTo_70 : decode cX6_goTo 70 = .ok (.l2i, 1) := by decide +kernel
theorem dX6_goTo_71 : decode cX6_goTo 71 = .ok (.putfield 28, 3) := by decide +kernel
theorem dX6_goTo_74 : decode cX6_goTo 74 = .ok (.iconst 1, 1) := by decide +kernel
theorem dX6_goTo_75 : decode cX6_goTo 75 = .ok (.ireturn, 1) := by decide +kernel
set_option maxRecDepth 100000 in
set_option maxHeartbeats 4000000 in
theorem X6_goTo_J38_ok {g : Gm} {w : Wd} (C : Cx g w RX6 cX6_goTo 5 (some .boolean)) {lv : Nat} (hlv : 0 < lv) {l0 : Nat} {l1 : Int} {s0 : Int} {m : Mem} {out : (Int × Mem)} (h : X6_goTo_J38 l0 l1 s0 m = some out) : Jd g w 5 (rmL lv 0 0) (Qm g w (some (vI out.1)) out.2) 38 [some (vR l0), some (vI l1), none, none, none] [vL s0] 312 m 0 0 := by
  unfold X6_goTo_J38 at h
  refine j_lstore_n (ls' := [some (vR _), some (vI _), none, some (vL _), none]) C dX6_goTo_38 (by decide) rfl ?_
  refine j_aload_n C dX6_goTo_39 rfl ?_
  refine j_iload_n C dX6_goTo_40 rfl ?_
  refine j_putI C dX6_goTo_41 CF6 (by decide) fl_X6_18 rfl rfl rfl rfl h (fun m1 h => ?_)
  refine j_aload_n C dX6_goTo_44 rfl ?_
  refine j_lload_n C dX6_goTo_45 rfl ?_
  refine j_l2i C dX6_goTo_46 ?_
  refine j_bipush C dX6_goTo_47 rfl ?_
  refine j_iand C dX6_goTo_49 ?_
  refine j_putI C dX6_goTo_50 CF6 (by decide) fl_X6_22 rfl rfl rfl rfl h (fun m2 h => ?_)
  refine j_aload_n C dX6_goTo_53 rfl ?_
  refine j_lload_n C dX6_goTo_54 rfl ?_
  refine j_iconst C dX6_goTo_55 rfl ?_
  refine j_lshr C dX6_goTo_56 ?_
  refine j_l2i C dX6_goTo_57 ?_
  refine j_sipush C dX6_goTo_58 rfl ?_
  refine j_iand C dX6_goTo_61 ?_
  refine j_putI C dX6_goTo_62 CF6 (by decide) fl_X6_25 rfl rfl rfl rfl h (fun m3 h => ?_)
  refine j_aload_n C dX6_goTo_65 rfl ?_
  refine j_lload_n C dX6_goTo_66 rfl ?_
  refine j_bipush C dX6_goTo_67 rfl ?_
  refine j_lshr C dX6_goTo_69 ?_
  refine j_l2i C dX6_goTo_70 ?_
  refine j_putI C dX6_goTo_71 CF6 (by decide) fl_X6_28 rfl rfl rfl rfl h (fun m4 h => ?_)
  refine j_iconst C dX6_goTo_74 rfl ?_
  obtain ⟨r5, er5, h⟩ := bind_some h
  have e := Option.some.inj h
  subst e
  exact j_rz C dX6_goTo_75 rfl (retZ_some er5) rfl
set_option maxRecDepth 100000 in
set_option maxHeartbeats 4000000 in
theorem X6_goTo_J20_ok {g : Gm} {w : Wd} (C : Cx g w RX6 cX6_goTo 5 (some .boolean)) {lv : Nat} (hlv : 0 < lv) {l0 : Nat} {l1 : Int} {s0 : Int} {m : Mem} {out : (Int × Mem)} (h : X6_goTo_J20 l0 l1 s0 m = some out) : Jd g w 5 (rmL lv 0 0) (Qm g w (some (vI out.1)) out.2) 20 [some (vR l0), some (vI l1), none, none, none] [vI s0] 312 m 0 0 := by
  unfold X6_goTo_J20 at h
  refine j_istore_n (ls' := [some (vR _), some (vI _), some (vI _), none, none]) C dX6_goTo_20 (by decide) rfl ?_
  refine j_iload_n C dX6_goTo_21 rfl ?_
  refine j_if_eq C 37 dX6_goTo_22 rfl h (fun c9 h => ?_) (fun c9 h => ?_)
  · refine j_lconst (v := 0) C dX6_goTo_37 rfl rfl ?_
    refine j_mask [true, true, false, false, false] (ls' := [some (vR _), some (vI _), none, none, none]) rfl ?_
    exact X6_goTo_J38_ok C hlv h
  · refine j_aload_n C dX6_goTo_25 rfl ?_
    refine j_getR C dX6_goTo_26 CF6 (by decide) fl_X6_12 rfl rfl h (fun t6 h => ?_)
    refine j_getR C dX6_goTo_29 CF8 (by decide) fl_X6_215 rfl rfl h (fun t7 h => ?_)
    refine j_iload_n C dX6_goTo_32 rfl ?_
    refine j_lald C dX6_goTo_33 rfl h (fun t8 h => ?_)
    refine j_goto C 38 dX6_goTo_34 rfl ?_
    refine j_mask [true, true, false, false, false] (ls' := [some (vR _), some (vI _), none, none, none]) rfl ?_
    exact X6_goTo_J38_ok C hlv h
set_option maxRecDepth 100000 in
set_option maxHeartbeats 4000000 in
theorem X6_goTo_J19_ok {g : Gm} {w : Wd} (C : Cx g w RX6 cX6_goTo 5 (some .boolean)) {lv : Nat} (hlv : 0 < lv) {l0 : Nat} {l1 : Int} {m : Mem} {out : (Int × Mem)} (h : X6_goTo_J19 l0 l1 m = some out) : Jd g w 5 (rmL lv 0 0) (Qm g w (some (vI out.1)) out.2) 19 [some (vR l0), some (vI l1), none, none, none] [] 312 m 0 0 := by
  unfold X6_goTo_J19 at h
  refine j_iconst C dX6_goTo_19 rfl ?_
  exact X6_goTo_J20_ok C hlv h
set_option maxRecDepth 100000 in
set_option maxHeartbeats 4000000 in
theorem X6_goTo_ct {l0 : Nat} {l1 : Int} {m : Mem} {out : (Int × Mem)} (h : X6_goTo l0 l1 m = some out) : shK l0 = 6 + 10 ∧ CT yX6_goTo cX6_goTo 5 (some .boolean) 1 0 0 [vR l0, vI l1] 312 m (some (vI out.1)) 312 out.2 := by
  unfold X6_goTo at h
  obtain ⟨hK, h⟩ := ite_some h
  have hlv : 0 < 1 := by decide
  refine ⟨hK, CT.of (by decide +kernel) rfl (Nat.le_of_ble_eq_true rfl) (ls := [some (vR l0), some (vI l1), none, none, none]) rfl fun g w C _ => ?_⟩
  refine j_iload_n C dX6_goTo_0 rfl ?_
  refine j_if_lt C 19 dX6_goTo_1 rfl h (fun c13 h => ?_) (fun c13 h => ?_)
  · exact X6_goTo_J19_ok C hlv h
  · refine j_iload_n C dX6_goTo_4 rfl ?_
    refine j_aload_n C dX6_goTo_5 rfl ?_
    refine j_getR C dX6_goTo_6 CF6 (by decide) fl_X6_12 rfl rfl h (fun t10 h => ?_)
    refine j_getI C dX6_goTo_9 CF8 (by decide) fl_X6_212 rfl rfl h (fun t11 h => ?_)
    refine j_icmp_ge C 19 dX6_goTo_12 rfl h (fun c12 h => ?_) (fun c12 h => ?_)
    · exact X6_goTo_J19_ok C hlv h
    · refine j_iconst C dX6_goTo_15 rfl ?_
      refine j_goto C 20 dX6_goTo_16 rfl ?_
      exact X6_goTo_J20_ok C hlv h
theorem dX6_unexpected_0 : decode cX6_unexpected 0 = .ok (.aload_n 0, 1) := by decide +kernel
theorem dX6_unexpected_1 : decode cX6_unexpected 1 = .ok (.iconst 1, 1) := by decide +kernel
theorem dX6_unexpected_2 : decode cX6_unexpected 2 = .ok (.putfield 43, 3) := by decide +kernel
theorem dX6_unexpected_5 : decode cX6_unexpected 5 = .ok (.aload_n 0, 1) := by decide +kernel
theorem dX6_unexpected_6 : decode cX6_unexpected 6 = .ok (.aload_n 0, 1) := by decide +kernel
theorem dX6_unexpected_7 : decode cX6_unexpected 7 = .ok (.getfield 22, 3) := by decide +kernel
theorem dX6_unexpected_10 : decode cX6_unexpected 10 = .ok (.bipush 6, 2) := by decide +kernel
theorem dX6_unexpected_12 : decode cX6_unexpected 12 = .ok (.if_icmp .ne 10, 3) := by decide +kernel
theorem dX6_unexpected_15 : decode cX6_unexpected 15 = .ok (.aload_n 0, 1) := by decide +kernel
theorem dX6_unexpected_16 : decode cX6_unexpected 16 = .ok (.getfield 28, 3) := by decide +kernel
theorem dX6_unexpected_19 : decode cX6_unexpected 19 = .ok (.goto 7, 3) := by decide +kernel
theorem dX6_unexpected_22 : decode cX6_unexpected 22 = .ok (.aload_n 0, 1) := by decide +kernel
theorem dX6_unexpected_23 : decode cX6_unexpected 23 = .ok (.getfield 25, 3) := by decide +kernel
theorem dX6_unexpected_26 : decode cX6_unexpected 26 = .ok (.putfield 46, 3) := by decide +kernel
theorem dX6_unexpected_29 : decode cX6_unexpected 29 = .ok (.iconst 0, 1) := by decide +kernel
theorem dX6_unexpected_30 : decode cX6_unexpected 30 = .ok (.ireturn, 1) := by decide +kernel
set_option maxRecDepth 100000 in
set_option maxHeartbeats 4000000 in
theorem X6_unexpected_J26_ok {g : Gm} {w : Wd} (C : Cx g w RX6 cX6_unexpected 1 (some .boolean)) {lv : Nat} (hlv : 0 < lv) {s0 : Nat} {s1 : Int} {m : Mem} {out : (Int × Mem)} (h : X6_unexpected_J26 s0 s1 m = some out) : Jd g w 1 (rmL lv 0 0) (Qm g w (some (vI out.1)) out.2) 26 [none] [vI s1, vR s0] 312 m 0 0 := by
  unfold X6_unexpected_J26 at h
  refine j_putI C dX6_unexpected_26 CF6 (by decide) fl_X6_46 rfl rfl rfl rfl h (fun m4 h => ?_)
  refine j_iconst C dX6_unexpected_29 rfl ?_
  obtain ⟨r5, er5, h⟩ := bind_some h
  have e := Option.some.inj h
  subst e
  exact j_rz C dX6_unexpected_30 rfl (retZ_some er5) rfl
set_option maxRecDepth 100000 in
set_option maxHeartbeats 4000000 in
theorem X6_unexpected_ct {l0 : Nat} {m : Mem} {out : (Int × Mem)} (h : X6_unexpected l0 m = some out) : shK l0 = 6 + 10 ∧ CT yX6_unexpected cX6_unexpected 1 (some .boolean) 1 0 0 [vR l0] 312 m (some (vI out.1)) 312 out.2 := by
  unfold X6_unexpected at h
  obtain ⟨hK, h⟩ := ite_some h
  have hlv : 0 < 1 := by decide
  refine ⟨hK, CT.of (by decide +kernel) rfl (Nat.le_of_ble_eq_true rfl) (ls := [some (vR l0)]) rfl fun g w C _ => ?_⟩
  refine j_aload_n C dX6_unexpected_0 rfl ?_
  refine j_iconst C dX6_unexpected_1 rfl ?_
  refine j_putI C dX6_unexpected_2 CF6 (by decide) fl_X6_43 rfl rfl rfl rfl h (fun m1 h => ?_)
  refine j_aload_n C dX6_unexpected_5 rfl ?_
  refine j_aload_n C dX6_unexpected_6 rfl ?_
  refine j_getI C dX6_unexpected_7 CF6 (by decide) fl_X6_22 rfl rfl h (fun t2 h => ?_)
  refine j_bipush C dX6_unexpected_10 rfl ?_
  refine j_icmp_ne C 22 dX6_unexpected_12 rfl h (fun c7 h => ?_) (fun c7 h => ?_)
  · refine j_aload_n C dX6_unexpected_22 rfl ?_
    refine j_getI C dX6_unexpected_23 CF6 (by decide) fl_X6_25 rfl rfl h (fun t3 h => ?_)
    refine j_mask [false] (ls' := [none]) rfl ?_
    exact X6_unexpected_J26_ok C hlv h
  · refine j_aload_n C dX6_unexpected_15 rfl ?_
    refine j_getI C dX6_unexpected_16 CF6 (by decide) fl_X6_28 rfl rfl h (fun t6 h => ?_)
    refine j_goto C 26 dX6_unexpected_19 rfl ?_
    refine j_mask [false] (ls' := [none]) rfl ?_
    exact X6_unexpected_J26_ok C hlv h
theorem dX6_word_0 : decode cX6_word 0 = .ok (.aload_n 0, 1) := by decide +kernel
theorem dX6_word_1 : decode cX6_word 1 = .ok (.getfield 22, 3) := by decide +kernel
theorem dX6_word_4 : decode cX6_word 4 = .ok (.iconst 2, 1) := by decide +kernel
theorem dX6_word_5 : decode cX6_word 5 = .ok (.if_icmp .ne 24, 3) := by decide +kernel
theorem dX6_word_8 : decode cX6_word 8 = .ok (.aload_n 0, 1) := by decide +kernel
theorem dX6_word_9 : decode cX6_word 9 = .ok (.getfield 28, 3) := by decide +kernel
theorem dX6_word_12 : decode cX6_word 12 = .ok (.iload_n 1, 1) := by decide +kernel
theorem dX6_word_13 : decode cX6_word 13 = .ok (.if_icmp .ne 16, 3) := by decide +kernel
theorem dX6_word_16 : decode cX6_word 16 = .ok (.aload_n 0, 1) := by decide +kernel
theorem dX6_word_17 : decode cX6_word 17 = .ok (.aload_n 0, 1) := by decide +kernel
theorem dX6_word_18 : decode cX6_word 18 = .ok (.getfield 18, 3) := by decide +kernel
theorem dX6_word_21 : decode cX6_word 21 = .ok (.iconst 1, 1) := by decide +kernel
theorem dX6_word_22 : decode cX6_word 22 = .ok (.iadd, 1) := by decide +kernel
theorem dX6_word_23 : decode cX6_word 23 = .ok (.invokevirtual 61, 3) := by decide +kernel
theorem dX6_word_26 : decode cX6_word 26 = .ok (.goto 7, 3) := by decide +kernel
theorem dX6_word_29 : decode cX6_word 29 = .ok (.aload_n 0, 1) := by decide +kernel
theorem dX6_word_30 : decode cX6_word 30 = .ok (.invokevirtual 139, 3) := by decide +kernel
theorem dX6_word_33 : decode cX6_word 33 = .ok (.ireturn, 1) := by decide +kernel
set_option maxRecDepth 100000 in
set_option maxHeartbeats 4000000 in
theorem X6_word_J29_ok {g : Gm} {w : Wd} (C : Cx g w RX6 cX6_word 2 (some .boolean)) {lv : Nat} (hlv : 1 < lv) {l0 : Nat} {m : Mem} {out : (Int × Mem)} (h : X6_word_J29 l0 m = some out) : Jd g w 2 (rmL lv 0 0) (Qm g w (some (vI out.1)) out.2) 29 [some (vR l0), none] [] 312 m 0 0 := by
  unfold X6_word_J29 at h
  refine j_aload_n C dX6_word_29 rfl ?_
  obtain ⟨p2, ep2, h⟩ := bind_some h
  have qp2 := X6_unexpected_ct ep2
  refine j_cVI C dX6_word_30 vl_X6_139 CF6 rfl qp2.1 qp2.2 (by omega) rfl rfl (Nat.le_of_ble_eq_true rfl) ?_
  obtain ⟨r3, er3, h⟩ := bind_some h
  have e := Option.some.inj h
  subst e
  exact j_rz C dX6_word_33 rfl (retZ_some er3) rfl
set_option maxRecDepth 100000 in
set_option maxHeartbeats 4000000 in
theorem X6_word_ct {l0 : Nat} {l1 : Int} {m : Mem} {out : (Int × Mem)} (h : X6_word l0 l1 m = some out) : shK l0 = 6 + 10 ∧ CT yX6_word cX6_word 2 (some .boolean) 2 0 0 [vR l0, vI l1] 312 m (some (vI out.1)) 312 out.2 := by
  unfold X6_word at h
  obtain ⟨hK, h⟩ := ite_some h
  have hlv : 1 < 2 := by decide
  refine ⟨hK, CT.of (by decide +kernel) rfl (Nat.le_of_ble_eq_true rfl) (ls := [some (vR l0), some (vI l1)]) rfl fun g w C _ => ?_⟩
  refine j_aload_n C dX6_word_0 rfl ?_
  refine j_getI C dX6_word_1 CF6 (by decide) fl_X6_22 rfl rfl h (fun t1 h => ?_)
  refine j_iconst C dX6_word_4 rfl ?_
  refine j_icmp_ne C 29 dX6_word_5 rfl h (fun c9 h => ?_) (fun c9 h => ?_)
  · refine j_mask [true, false] (ls' := [some (vR _), none]) rfl ?_
    exact X6_word_J29_ok C hlv h
  · refine j_aload_n C dX6_word_8 rfl ?_
    refine j_getI C dX6_word_9 CF6 (by decide) fl_X6_28 rfl rfl h (fun t4 h => ?_)
    refine j_iload_n C dX6_word_12 rfl ?_
    refine j_icmp_ne C 29 dX6_word_13 rfl h (fun c8 h => ?_) (fun c8 h => ?_)
    · refine j_mask [true, false] (ls' := [some (vR _), none]) rfl ?_
      exact X6_word_J29_ok C hlv h
    · refine j_aload_n C dX6_word_16 rfl ?_
      refine j_aload_n C dX6_word_17 rfl ?_
      refine j_getI C dX6_word_18 CF6 (by decide) fl_X6_18 rfl rfl h (fun t5 h => ?_)
      refine j_iconst C dX6_word_21 rfl ?_
      refine j_iadd C dX6_word_22 ?_
      obtain ⟨p6, ep6, h⟩ := bind_some h
      have qp6 := X6_goTo_ct ep6
      refine j_cVI C dX6_word_23 vl_X6_61 CF6 rfl qp6.1 qp6.2 (by omega) rfl rfl (Nat.le_of_ble_eq_true rfl) ?_
      refine j_goto C 33 dX6_word_26 rfl ?_
      obtain ⟨r7, er7, h⟩ := bind_some h
      have e := Option.some.inj h
      subst e
      exact j_rz C dX6_word_33 rfl (retZ_some er7) rfl
theorem dX6_refuse_0 : decode cX6_refuse 0 = .ok (.aload_n 0, 1) := by decide +kernel
theorem dX6_refuse_1 : decode cX6_refuse 1 = .ok (.iload_n 1, 1) := by decide +kernel
theorem dX6_refuse_2 : decode cX6_refuse 2 = .ok (.putfield 43, 3) := by decide +kernel
theorem dX6_refuse_5 : decode cX6_refuse 5 = .ok (.aload_n 0, 1) := by decide +kernel
theorem dX6_refuse_6 : decode cX6_refuse 6 = .ok (.iload_n 2, 1) := by decide +kernel
theorem dX6_refuse_7 : decode cX6_refuse 7 = .ok (.putfield 46, 3) := by decide +kernel
theorem dX6_refuse_10 : decode cX6_refuse 10 = .ok (.iconst 0, 1) := by decide +kernel
theorem dX6_refuse_11 : decode cX6_refuse 11 = .ok (.ireturn, 1) := by decide +kernel
set_option maxRecDepth 100000 in
set_option maxHeartbeats 4000000 in
theorem X6_refuse_ct {l0 : Nat} {l1 : Int} {l2 : Int} {m : Mem} {out : (Int × Mem)} (h : X6_refuse l0 l1 l2 m = some out) : shK l0 = 6 + 10 ∧ CT yX6_refuse cX6_refuse 3 (some .boolean) 1 0 0 [vR l0, vI l1, vI l2] 312 m (some (vI out.1)) 312 out.2 := by
  unfold X6_refuse at h
  obtain ⟨hK, h⟩ := ite_some h
  have hlv : 0 < 1 := by decide
  refine ⟨hK, CT.of (by decide +kernel) rfl (Nat.le_of_ble_eq_true rfl) (ls := [some (vR l0), some (vI l1), some (vI l2)]) rfl fun g w C _ => ?_⟩
  refine j_aload_n C dX6_refuse_0 rfl ?_
  refine j_iload_n C dX6_refuse_1 rfl ?_
  refine j_putI C dX6_refuse_2 CF6 (by decide) fl_X6_43 rfl rfl rfl rfl h (fun m1 h => ?_)
  refine j_aload_n C dX6_refuse_5 rfl ?_
  refine j_iload_n C dX6_refuse_6 rfl ?_
  refine j_putI C dX6_refuse_7 CF6 (by decide) fl_X6_46 rfl rfl rfl rfl h (fun m2 h => ?_)
  refine j_iconst C dX6_refuse_10 rfl ?_
  obtain ⟨r3, er3, h⟩ := bind_some h
  have e := Option.some.inj h
  subst e
  exact j_rz C dX6_refuse_11 rfl (retZ_some er3) rfl
theorem dX6_number_0 : decode cX6_number 0 = .ok (.aload_n 0, 1) := by decide +kernel
theorem dX6_number_1 : decode cX6_number 1 = .ok (.getfield 22, 3) := by decide +kernel
theorem dX6_number_4 : decode cX6_number 4 = .ok (.iconst 1, 1) := by decide +kernel
theorem dX6_number_5 : decode cX6_number 5 = .ok (.if_icmp .eq 8, 3) := by decide +kernel
theorem dX6_number_8 : decode cX6_number 8 = .ok (.aload_n 0, 1) := by decide +kernel
theorem dX6_number_9 : decode cX6_number 9 = .ok (.invokevirtual 139, 3) := by decide +kernel
theorem dX6_number_12 : decode cX6_number 12 = .ok (.ireturn, 1) := by decide +kernel
theorem dX6_number_13 : decode cX6_number 13 = .ok (.aload_n 0, 1) := by decide +kernel
theorem dX6_number_14 : decode cX6_number 14 = .ok (.aload_n 0, 1) := by decide +kernel
theorem dX6_number_15 : decode cX6_number 15 = .ok (.getfield 28, 3) := by decide +kernel
theorem dX6_number_18 : decode cX6_number 18 = .ok (.putfield 31, 3) := by decide +kernel
theorem dX6_number_21 : decode cX6_number 21 = .ok (.aload_n 0, 1) := by decide +kernel
theorem dX6_number_22 : decode cX6_number 22 = .ok (.aload_n 0, 1) := by decide +kernel
theorem dX6_number_23 : decode cX6_number 23 = .ok (.getfield 25, 3) := by decide +kernel
theorem dX6_number_26 : decode cX6_number 26 = .ok (.putfield 34, 3) := by decide +kernel
theorem dX6_number_29 : decode cX6_number 29 = .ok (.aload_n 0, 1) := by decide +kernel
theorem dX6_number_30 : decode cX6_number 30 = .ok (.getfield 31, 3) := by decide +kernel
theorem dX6_number_33 : decode cX6_number 33 = .ok (.iload_n 1, 1) := by decide +kernel
theorem dX6_number_34 : decode cX6_number 34 = .ok (.if_icmp .lt 11, 3) := by decide +kernel
theorem dX6_number_37 : decode cX6_number 37 = .ok (.aload_n 0, 1) := by decide +kernel
theorem dX6_number_38 : decode cX6_number 38 = .ok (.getfield 31, 3) := by decide +kernel
theorem dX6_number_41 : decode cX6_number 41 = .ok (.iload_n 2, 1) := by decide +kernel
theorem dX6_number_42 : decode cX6_number 42 = .ok (.if_icmp .le 13, 3) := by decide +kernel
theorem dX6_number_45 : decode cX6_number 45 = .ok (.aload_n 0, 1) := by decide +kernel
theorem dX6_number_46 : decode cX6_number 46 = .ok (.iconst 4, 1) := by decide +kernel
theorem dX6_number_47 : decode cX6_number 47 = .ok (.aload_n 0, 1) := by decide +kernel
theorem dX6_number_48 : decode cX6_number 48 = .ok (.getfield 25, 3) := by decide +kernel
theorem dX6_number_51 : decode cX6_number 51 = .ok (.invokevirtual 94, 3) := by decide +kernel
theorem dX6_number_54 : decode cX6_number 54 = .ok (.ireturn, 1) := by decide +kernel
theorem dX6_number_55 : decode cX6_number 55 = .ok (.aload_n 0, 1) := by decide +kernel
theorem dX6_number_56 : decode cX6_number 56 = .ok (.aload_n 0, 1) := by decide +kernel
theorem dX6_number_57 : decode cX6_number 57 = .ok (.getfield 18, 3) := by decide +kernel
theorem dX6_number_60 : decode cX6_number 60 = .ok (.iconst 1, 1) := by decide +kernel
theorem dX6_number_61 : decode cX6_number 61 = .ok (.iadd, 1) := by decide +kernel
theorem dX6_number_62 : decode cX6_number 62 = .ok (.invokevirtual 61, 3) := by decide +kernel
theorem dX6_number_65 : decode cX6_number 65 = .ok (.ireturn, 1) := by decide +kernel
set_option maxRecDepth 100000 in
set_option maxHeartbeats 4000000 in
theorem X6_number_J45_ok {g : Gm} {w : Wd} (C : Cx g w RX6 cX6_number 3 (some .boolean)) {lv : Nat} (hlv : 1 < lv) {l0 : Nat} {m : Mem} {out : (Int × Mem)} (h : X6_number_J45 l0 m = some out) : Jd g w 3 (rmL lv 0 0) (Qm g w (some (vI out.1)) out.2) 45 [some (vR l0), none, none] [] 312 m 0 0 := by
  unfold X6_number_J45 at h
  refine j_aload_n C dX6_number_45 rfl ?_
  refine j_iconst C dX6_number_46 rfl ?_
  refine j_aload_n C dX6_number_47 rfl ?_
  refine j_getI C dX6_number_48 CF6 (by decide) fl_X6_25 rfl rfl h (fun t7 h => ?_)
  obtain ⟨p8, ep8, h⟩ := bind_some h
  have qp8 := X6_refuse_ct ep8
  refine j_cVI C dX6_number_51 vl_X6_94 CF6 rfl qp8.1 qp8.2 (by omega) rfl rfl (Nat.le_of_ble_eq_true rfl) ?_
  obtain ⟨r9, er9, h⟩ := bind_some h
  have e := Option.some.inj h
  subst e
  exact j_rz C dX6_number_54 rfl (retZ_some er9) rfl
set_option maxRecDepth 100000 in
set_option maxHeartbeats 4000000 in
theorem X6_number_ct {l0 : Nat} {l1 : Int} {l2 : Int} {m : Mem} {out : (Int × Mem)} (h : X6_number l0 l1 l2 m = some out) : shK l0 = 6 + 10 ∧ CT yX6_number cX6_number 3 (some .boolean) 2 0 0 [vR l0, vI l1, vI l2] 312 m (some (vI out.1)) 312 out.2 := by
  unfold X6_number at h
  obtain ⟨hK, h⟩ := ite_some h
  have hlv : 1 < 2 := by decide
  refine ⟨hK, CT.of (by decide +kernel) rfl (Nat.le_of_ble_eq_true rfl) (ls := [some (vR l0), some (vI l1), some (vI l2)]) rfl fun g w C _ => ?_⟩
  refine j_aload_n C dX6_number_0 rfl ?_
  refine j_getI C dX6_number_1 CF6 (by decide) fl_X6_22 rfl rfl h (fun t1 h => ?_)
  refine j_iconst C dX6_number_4 rfl ?_
  refine j_icmp_eq C 13 dX6_number_5 rfl h (fun c18 h => ?_) (fun c18 h => ?_)
  · refine j_aload_n C dX6_number_13 rfl ?_
    refine j_aload_n C dX6_number_14 rfl ?_
    refine j_getI C dX6_number_15 CF6 (by decide) fl_X6_28 rfl rfl h (fun t2 h => ?_)
    refine j_putI C dX6_number_18 CF6 (by decide) fl_X6_31 rfl rfl rfl rfl h (fun m3 h => ?_)
    refine j_aload_n C dX6_number_21 rfl ?_
    refine j_aload_n C dX6_number_22 rfl ?_
    refine j_getI C dX6_number_23 CF6 (by decide) fl_X6_25 rfl rfl h (fun t4 h => ?_)
    refine j_putI C dX6_number_26 CF6 (by decide) fl_X6_34 rfl rfl rfl rfl h (fun m5 h => ?_)
    refine j_aload_n C dX6_number_29 rfl ?_
    refine j_getI C dX6_number_30 CF6 (by decide) fl_X6_31 rfl rfl h (fun t6 h => ?_)
    refine j_iload_n C dX6_number_33 rfl ?_
    refine j_icmp_lt C 45 dX6_number_34 rfl h (fun c15 h => ?_) (fun c15 h => ?_)
    · refine j_mask [true, false, false] (ls' := [some (vR _), none, none]) rfl ?_
      exact X6_number_J45_ok C hlv h
    · refine j_aload_n C dX6_number_37 rfl ?_
      refine j_getI C dX6_number_38 CF6 (by decide) fl_X6_31 rfl rfl h (fun t10 h => ?_)
      refine j_iload_n C dX6_number_41 rfl ?_
      refine j_icmp_le C 55 dX6_number_42 rfl h (fun c14 h => ?_) (fun c14 h => ?_)
      · refine j_aload_n C dX6_number_55 rfl ?_
        refine j_aload_n C dX6_number_56 rfl ?_
        refine j_getI C dX6_number_57 CF6 (by decide) fl_X6_18 rfl rfl h (fun t11 h => ?_)
        refine j_iconst C dX6_number_60 rfl ?_
        refine j_iadd C dX6_number_61 ?_
        obtain ⟨p12, ep12, h⟩ := bind_some h
        have qp12 := X6_goTo_ct ep12
        refine j_cVI C dX6_number_62 vl_X6_61 CF6 rfl qp12.1 qp12.2 (by omega) rfl rfl (Nat.le_of_ble_eq_true rfl) ?_
        obtain ⟨r13, er13, h⟩ := bind_some h
        have e := Option.some.inj h
        subst e
        exact j_rz C dX6_number_65 rfl (retZ_some er13) rfl
      · refine j_mask [true, false, false] (ls' := [some (vR _), none, none]) rfl ?_
        exact X6_number_J45_ok C hlv h
  · refine j_aload_n C dX6_number_8 rfl ?_
    obtain ⟨p16, ep16, h⟩ := bind_some h
    have qp16 := X6_unexpected_ct ep16
    refine j_cVI C dX6_number_9 vl_X6_139 CF6 rfl qp16.1 qp16.2 (by omega) rfl rfl (Nat.le_of_ble_eq_true rfl) ?_
    obtain ⟨r17, er17, h⟩ := bind_some h
    have e := Option.some.inj h
    subst e
    exact j_rz C dX6_number_12 rfl (retZ_some er17) rfl
theorem dX5_spread_0 : decode cX5_spread 0 = .ok (.aload_n 0, 1) := by decide +kernel
theorem dX5_spread_1 : decode cX5_spread 1 = .ok (.iload_n 1, 1) := by decide +kernel
theorem dX5_spread_2 : decode cX5_spread 2 = .ok (.putfield 9, 3) := by decide +kernel
theorem dX5_spread_5 : decode cX5_spread 5 = .ok (.aload_n 0, 1) := by decide +kernel
theorem dX5_spread_6 : decode cX5_spread 6 = .ok (.iload_n 2, 1) := by decide +kernel
theorem dX5_spread_7 : decode cX5_spread 7 = .ok (.putfield 15, 3) := by decide +kernel
theorem dX5_spread_10 : decode cX5_spread 10 = .ok (.iconst 0, 1) := by decide +kernel
theorem dX5_spread_11 : decode cX5_spread 11 = .ok (.istore_n 3, 1) := by decide +kernel
theorem dX5_spread_12 : decode cX5_spread 12 = .ok (.iload_n 3, 1) := by decide +kernel
theorem dX5_spread_13 : decode cX5_spread 13 = .ok (.aload_n 0, 1) := by decide +kernel
theorem dX5_spread_14 : decode cX5_spread 14 = .ok (.getfield 9, 3) := by decide +kernel
theorem dX5_spread_17 : decode cX5_spread 17 = .ok (.aload_n 0, 1) := by decide +kernel
theorem dX5_spread_18 : decode cX5_spread 18 = .ok (.getfield 15, 3) := by decide +kernel
theorem dX5_spread_21 : decode cX5_spread 21 = .ok (.imul, 1) := by decide +kernel
theorem dX5_spread_22 : decode cX5_spread 22 = .ok (.if_icmp .ge 68, 3) := by decide +kernel
theorem dX5_spread_25 : decode cX5_spread 25 = .ok (.iload_n 3, 1) := by decide +kernel
theorem dX5_spread_26 : decode cX5_spread 26 = .ok (.bipush 42, 2) := by decide +kernel
theorem dX5_spread_28 : decode cX5_spread 28 = .ok (.if_icmp .ge 62, 3) := by decide +kernel
theorem dX5_spread_31 : decode cX5_spread 31 = .ok (.iconst 0, 1) := by decide +kernel
theorem dX5_spread_32 : decode cX5_spread 32 = .ok (.istore 4, 2) := by decide +kernel
theorem dX5_spread_34 : decode cX5_spread 34 = .ok (.iload 4, 2) := by decide +kernel
theorem dX5_spread_36 : decode cX5_spread 36 = .ok (.bipush 8, 2) := by decide +kernel
theorem dX5_spread_38 : decode cX5_spread 38 = .ok (.if_icmp .ge 46, 3) := by decide +kernel
theorem dX5_spread_41 : decode cX5_spread 41 = .ok (.aload_n 0, 1) := by decide +kernel
theorem dX5_spread_42 : decode cX5_spread 42 = .ok (.getfield 20, 3) := by decide +kernel
theorem dX5_spread_45 : decode cX5_spread 45 = .ok (.iload 4, 2) := by decide +kernel
theorem dX5_spread_47 : decode cX5_spread 47 = .ok (.aaload, 1) := by decide +kernel
theorem dX5_spread_48 : decode cX5_spread 48 = .ok (.iload_n 3, 1) := by decide +kernel
theorem dX5_spread_49 : decode cX5_spread 49 = .ok (.aload_n 0, 1) := by decide +kernel
theorem dX5_spread_50 : decode cX5_spread 50 = .ok (.aload_n 0, 1) := by decide +kernel
theorem dX5_spread_51 : decode cX5_spread 51 = .ok (.iload_n 3, 1) := by decide +kernel
theorem dX5_spread_52 : decode cX5_spread 52 = .ok (.invokevirtual 93, 3) := by decide +kernel
theorem dX5_spread_55 : decode cX5_spread 55 = .ok (.getstatic 97, 3) := by decide +kernel
theorem dX5_spread_58 : decode cX5_spread 58 = .ok (.iload 4, 2) := by decide +kernel
theorem dX5_spread_60 : decode cX5_spread 60 = .ok (.iaload, 1) := by decide +kernel
theorem dX5_spread_61 : decode cX5_spread 61 = .ok (.iadd, 1) := by decide +kernel
theorem dX5_spread_62 : decode cX5_spread 62 = .ok (.aload_n 0, 1) := by decide +kernel
theorem dX5_spread_63 : decode cX5_spread 63 = .ok (.iload_n 3, 1) := by decide +kernel
theorem dX5_spread_64 : decode cX5_spread 64 = .ok (.invokevirtual 100, 3) := by decide +kernel
theorem dX5_spread_67 : decode cX5_spread 67 = .ok (.getstatic 103, 3) := by decide +kernel
theorem dX5_spread_70 : decode cX5_spread 70 = .ok (.iload 4, 2) := by decide +kernel
theorem dX5_spread_72 : decode cX5_spread 72 = .ok (.iaload, 1) := by decide +kernel
theorem dX5_spread_73 : decode cX5_spread 73 = .ok (.iadd, 1) := by decide +kernel
theorem dX5_spread_74 : decode cX5_spread 74 = .ok (.invokevirtual 106, 3) := by decide +kernel
theorem dX5_spread_77 : decode cX5_spread 77 = .ok (.iastore, 1) := by decide +kernel
theorem dX5_spread_78 : decode cX5_spread 78 = .ok (.iinc 4 1, 3) := by decide +kernel
theorem dX5_spread_81 : decode cX5_spread 81 = .ok (.goto (-47), 3) := by decide +kernel
theorem dX5_spread_84 : decode cX5_spread 84 = .ok (.iinc 3 1, 3) := by decide +kernel
theorem dX5_spread_87 : decode cX5_spread 87 = .ok (.goto (-75), 3) := by decide +kernel
theorem dX5_spread_90 : decode cX5_spread 90 = .ok (.return_, 1) := by decide +kernel
set_option maxRecDepth 100000 in
set_option maxHeartbeats 4000000 in
theorem X5_spread_L34_bok {g : Gm} {w : Wd} (C : Cx g w RX5 cX5_spread 5 none) {lv : Nat} (hlv : 1 < lv) {N : Nat} {k84 : Nat → Int → Mem → Option Mem} {r34 : Nat → Int → Int → Mem → Option Mem} {l0 : Nat} {l3 : Int} {l4 : Int} {m : Mem} {out : Mem} (hk84 : ∀ l0 l3 m, k84 l0 l3 m = some out → Jd g w 5 (rmL lv 0 0) (Qm g w none out) 84 [some (vR l0), none, none, some (vI l3), none] [] 312 m 0 0) (hr34 : ∀ l0 l3 l4 m, r34 l0 l3 l4 m = some out → Jd g w 5 (rmL lv 0 0) (Qm g w none out) 34 [some (vR l0), none, none, some (vI l3), some (vI l4)] [] 312 m 0 0) (h : X5_spread_L34_b N k84 r34 l0 l3 l4 m = some out) : Jd g w 5 (rmL lv 0 0) (Qm g w none out) 34 [some (vR l0), none, none, some (vI l3), some (vI l4)] [] 312 m 0 0 := by
  unfold X5_spread_L34_b at h
  refine j_iload C dX5_spread_34 rfl ?_
  refine j_bipush C dX5_spread_36 rfl ?_
  refine j_icmp_ge C 84 dX5_spread_38 rfl h (fun c13 h => ?_) (fun c13 h => ?_)
  · refine j_mask [true, false, false, true, false] (ls' := [some (vR _), none, none, some (vI _), none]) rfl ?_
    exact hk84 _ _ _ h
  · refine j_aload_n C dX5_spread_41 rfl ?_
    refine j_getR C dX5_spread_42 CF5 (by decide) fl_X5_20 rfl rfl h (fun t5 h => ?_)
    refine j_iload C dX5_spread_45 rfl ?_
    refine j_aald C dX5_spread_47 rfl h (fun t6 h => ?_)
    refine j_iload_n C dX5_spread_48 rfl ?_
    refine j_aload_n C dX5_spread_49 rfl ?_
    refine j_aload_n C dX5_spread_50 rfl ?_
    refine j_iload_n C dX5_spread_51 rfl ?_
    obtain ⟨p7, ep7, h⟩ := bind_some h
    have qp7 := X5_acrossOf_ct ep7
    refine j_cVI C dX5_spread_52 vl_X5_93 CF5 rfl qp7.1 qp7.2 (by omega) rfl rfl (Nat.le_of_ble_eq_true rfl) ?_
    refine j_gets C 1 dX5_spread_55 fs_X5_97 (Or.inl ⟨rfl, rfl⟩) ?_
    refine j_iload C dX5_spread_58 rfl ?_
    refine j_iald C dX5_spread_60 rfl h (fun t8 h => ?_)
    refine j_iadd C dX5_spread_61 ?_
    refine j_aload_n C dX5_spread_62 rfl ?_
    refine j_iload_n C dX5_spread_63 rfl ?_
    obtain ⟨p9, ep9, h⟩ := bind_some h
    have qp9 := X5_downOf_ct ep9
    refine j_cVI C dX5_spread_64 vl_X5_100 CF5 rfl qp9.1 qp9.2 (by omega) rfl rfl (Nat.le_of_ble_eq_true rfl) ?_
    refine j_gets C 2 dX5_spread_67 fs_X5_103 (Or.inr ⟨rfl, rfl⟩) ?_
    refine j_iload C dX5_spread_70 rfl ?_
    refine j_iald C dX5_spread_72 rfl h (fun t10 h => ?_)
    refine j_iadd C dX5_spread_73 ?_
    obtain ⟨p11, ep11, h⟩ := bind_some h
    have qp11 := X5_cellAt_ct ep11
    refine j_cVI C dX5_spread_74 vl_X5_106 CF5 rfl qp11.1 qp11.2 (by omega) rfl rfl (Nat.le_of_ble_eq_true rfl) ?_
    refine j_iast C dX5_spread_77 rfl h (fun m12 h => ?_)
    refine j_iinc (ls' := [some (vR _), none, none, some (vI _), some (vI _)]) C dX5_spread_78 rfl (by decide) rfl ?_
    refine j_goto C 34 dX5_spread_81 rfl ?_
    exact hr34 _ _ _ _ h
set_option maxRecDepth 100000 in
set_option maxHeartbeats 4000000 in
theorem X5_spread_L34_ok {g : Gm} {w : Wd} (C : Cx g w RX5 cX5_spread 5 none) {lv : Nat} (hlv : 1 < lv) {N : Nat} {k84 : Nat → Int → Mem → Option Mem} {out : Mem} (hk84 : ∀ l0 l3 m, k84 l0 l3 m = some out → Jd g w 5 (rmL lv 0 0) (Qm g w none out) 84 [some (vR l0), none, none, some (vI l3), none] [] 312 m 0 0) (f : Nat) : ∀ {l0 : Nat} {l3 : Int} {l4 : Int} {m : Mem}, X5_spread_L34 N k84 f l0 l3 l4 m = some out → Jd g w 5 (rmL lv 0 0) (Qm g w none out) 34 [some (vR l0), none, none, some (vI l3), some (vI l4)] [] 312 m 0 0 := by
  induction f with
  | zero => intro l0 l3 l4 m h; exact none_ne (α := Mem) h
  | succ f ih => intro l0 l3 l4 m h; exact X5_spread_L34_bok C hlv hk84 (fun l0 l3 l4 m h => ih h) h
set_option maxRecDepth 100000 in
set_option maxHeartbeats 4000000 in
theorem X5_spread_L12_bok {g : Gm} {w : Wd} (C : Cx g w RX5 cX5_spread 5 none) {lv : Nat} (hlv : 1 < lv) {N : Nat} {r12 : Nat → Int → Mem → Option Mem} {l0 : Nat} {l3 : Int} {m : Mem} {out : Mem} (hr12 : ∀ l0 l3 m, r12 l0 l3 m = some out → Jd g w 5 (rmL lv 0 0) (Qm g w none out) 12 [some (vR l0), none, none, some (vI l3), none] [] 312 m 0 0) (h : X5_spread_L12_b N r12 l0 l3 m = some out) : Jd g w 5 (rmL lv 0 0) (Qm g w none out) 12 [some (vR l0), none, none, some (vI l3), none] [] 312 m 0 0 := by
  unfold X5_spread_L12_b at h
  refine j_iload_n C dX5_spread_12 rfl ?_
  refine j_aload_n C dX5_spread_13 rfl ?_
  refine j_getI C dX5_spread_14 CF5 (by decide) fl_X5_9 rfl rfl h (fun t3 h => ?_)
  refine j_aload_n C dX5_spread_17 rfl ?_
  refine j_getI C dX5_spread_18 CF5 (by decide) fl_X5_15 rfl rfl h (fun t4 h => ?_)
  refine j_imul C dX5_spread_21 ?_
  refine j_icmp_ge C 90 dX5_spread_22 rfl h (fun c18 h => ?_) (fun c18 h => ?_)
  · have e := Option.some.inj h
    subst e
    exact j_rv C dX5_spread_90 rfl rfl
  · refine j_iload_n C dX5_spread_25 rfl ?_
    refine j_bipush C dX5_spread_26 rfl ?_
    refine j_icmp_ge C 90 dX5_spread_28 rfl h (fun c17 h => ?_) (fun c17 h => ?_)
    · have e := Option.some.inj h
      subst e
      exact j_rv C dX5_spread_90 rfl rfl
    · refine j_iconst C dX5_spread_31 rfl ?_
      refine j_istore (ls' := [some (vR _), none, none, some (vI _), some (vI _)]) C dX5_spread_32 (by decide) rfl ?_
      refine X5_spread_L34_ok C hlv (fun z14 z15 m16 h => ?_) N h
      refine j_iinc (ls' := [some (vR _), none, none, some (vI _), none]) C dX5_spread_84 rfl (by decide) rfl ?_
      refine j_goto C 12 dX5_spread_87 rfl ?_
      exact hr12 _ _ _ h
set_option maxRecDepth 100000 in
set_option maxHeartbeats 4000000 in
theorem X5_spread_L12_ok {g : Gm} {w : Wd} (C : Cx g w RX5 cX5_spread 5 none) {lv : Nat} (hlv : 1 < lv) {N : Nat} {out : Mem} (f : Nat) : ∀ {l0 : Nat} {l3 : Int} {m : Mem}, X5_spread_L12 N f l0 l3 m = some out → Jd g w 5 (rmL lv 0 0) (Qm g w none out) 12 [some (vR l0), none, none, some (vI l3), none] [] 312 m 0 0 := by
  induction f with
  | zero => intro l0 l3 m h; exact none_ne (α := Mem) h
  | succ f ih => intro l0 l3 m h; exact X5_spread_L12_bok C hlv (fun l0 l3 m h => ih h) h
set_option maxRecDepth 100000 in
set_option maxHeartbeats 4000000 in
theorem X5_spread_ct {N : Nat} {l0 : Nat} {l1 : Int} {l2 : Int} {m : Mem} {out : Mem} (h : X5_spread N l0 l1 l2 m = some out) : shK l0 = 5 + 10 ∧ CT yX5_spread cX5_spread 5 none 2 0 0 [vR l0, vI l1, vI l2] 312 m none 312 out := by
  unfold X5_spread at h
  obtain ⟨hK, h⟩ := ite_some h
  have hlv : 1 < 2 := by decide
  refine ⟨hK, CT.of (by decide +kernel) rfl (Nat.le_of_ble_eq_true rfl) (ls := [some (vR l0), some (vI l1), some (vI l2), none, none]) rfl fun g w C _ => ?_⟩
  refine j_aload_n C dX5_spread_0 rfl ?_
  refine j_iload_n C dX5_spread_1 rfl ?_
  refine j_putI C dX5_spread_2 CF5 (by decide) fl_X5_9 rfl rfl rfl rfl h (fun m1 h => ?_)
  refine j_aload_n C dX5_spread_5 rfl ?_
  refine j_iload_n C dX5_spread_6 rfl ?_
  refine j_putI C dX5_spread_7 CF5 (by decide) fl_X5_15 rfl rfl rfl rfl h (fun m2 h => ?_)
  refine j_iconst C dX5_spread_10 rfl ?_
  refine j_istore_n (ls' := [some (vR _), some (vI _), some (vI _), some (vI _), none]) C dX5_spread_11 (by decide) rfl ?_
  refine j_mask [true, false, false, true, false] (ls' := [some (vR _), none, none, some (vI _), none]) rfl ?_
  exact X5_spread_L12_ok C hlv N h
theorem dX6_size_0 : decode cX6_size 0 = .ok (.aload_n 0, 1) := by decide +kernel
theorem dX6_size_1 : decode cX6_size 1 = .ok (.iconst 0, 1) := by decide +kernel
theorem dX6_size_2 : decode cX6_size 2 = .ok (.invokevirtual 76, 3) := by decide +kernel
theorem dX6_size_5 : decode cX6_size 5 = .ok (.ifCond .eq 13, 3) := by decide +kernel
theorem dX6_size_8 : decode cX6_size 8 = .ok (.aload_n 0, 1) := by decide +kernel
theorem dX6_size_9 : decode cX6_size 9 = .ok (.iconst 2, 1) := by decide +kernel
theorem dX6_size_10 : decode cX6_size 10 = .ok (.bipush 7, 2) := by decide +kernel
theorem dX6_size_12 : decode cX6_size 12 = .ok (.invokevirtual 79, 3) := by decide +kernel
theorem dX6_size_15 : decode cX6_size 15 = .ok (.ifCond .ne 5, 3) := by decide +kernel
theorem dX6_size_18 : decode cX6_size 18 = .ok (.iconst 0, 1) := by decide +kernel
theorem dX6_size_19 : decode cX6_size 19 = .ok (.ireturn, 1) := by decide +kernel
theorem dX6_size_20 : decode cX6_size 20 = .ok (.aload_n 0, 1) := by decide +kernel
theorem dX6_size_21 : decode cX6_size 21 = .ok (.getfield 31, 3) := by decide +kernel
theorem dX6_size_24 : decode cX6_size 24 = .ok (.istore_n 2, 1) := by decide +kernel
theorem dX6_size_25 : decode cX6_size 25 = .ok (.aload_n 0, 1) := by decide +kernel
theorem dX6_size_26 : decode cX6_size 26 = .ok (.iconst 2, 1) := by decide +kernel
theorem dX6_size_27 : decode cX6_size 27 = .ok (.bipush 6, 2) := by decide +kernel
theorem dX6_size_29 : decode cX6_size 29 = .ok (.invokevirtual 79, 3) := by decide +kernel
theorem dX6_size_32 : decode cX6_size 32 = .ok (.ifCond .ne 5, 3) := by decide +kernel
theorem dX6_size_35 : decode cX6_size 35 = .ok (.iconst 0, 1) := by decide +kernel
theorem dX6_size_36 : decode cX6_size 36 = .ok (.ireturn, 1) := by decide +kernel
theorem dX6_size_37 : decode cX6_size 37 = .ok (.aload_n 1, 1) := by decide +kernel
theorem dX6_size_38 : decode cX6_size 38 = .ok (.iload_n 2, 1) := by decide +kernel
theorem dX6_size_39 : decode cX6_size 39 = .ok (.aload_n 0, 1) := by decide +kernel
theorem dX6_size_40 : decode cX6_size 40 = .ok (.getfield 31, 3) := by decide +kernel
theorem dX6_size_43 : decode cX6_size 43 = .ok (.invokevirtual 82, 3) := by decide +kernel
theorem dX6_size_46 : decode cX6_size 46 = .ok (.iconst 1, 1) := by decide +kernel
theorem dX6_size_47 : decode cX6_size 47 = .ok (.ireturn, 1) := by decide +kernel
set_option maxRecDepth 100000 in
set_option maxHeartbeats 4000000 in
theorem X6_size_ct {N : Nat} {l0 : Nat} {l1 : Nat} {m : Mem} {out : (Int × Mem)} (h : X6_size N l0 l1 m = some out) : shK l0 = 6 + 10 ∧ CT yX6_size cX6_size 3 (some .boolean) 3 0 0 [vR l0, vR l1] 312 m (some (vI out.1)) 312 out.2 := by
  unfold X6_size at h
  obtain ⟨hK, h⟩ := ite_some h
  have hlv : 2 < 3 := by decide
  refine ⟨hK, CT.of (by decide +kernel) rfl (Nat.le_of_ble_eq_true rfl) (ls := [some (vR l0), some (vR l1), none]) rfl fun g w C _ => ?_⟩
  refine j_aload_n C dX6_size_0 rfl ?_
  refine j_iconst C dX6_size_1 rfl ?_
  obtain ⟨p1, ep1, h⟩ := bind_some h
  have qp1 := X6_word_ct ep1
  refine j_cVI C dX6_size_2 vl_X6_76 CF6 rfl qp1.1 qp1.2 (by omega) rfl rfl (Nat.le_of_ble_eq_true rfl) ?_
  refine j_if_eq C 18 dX6_size_5 rfl h (fun c13 h => ?_) (fun c13 h => ?_)
  · refine j_iconst C dX6_size_18 rfl ?_
    obtain ⟨r2, er2, h⟩ := bind_some h
    have e := Option.some.inj h
    subst e
    exact j_rz C dX6_size_19 rfl (retZ_some er2) rfl
  · refine j_aload_n C dX6_size_8 rfl ?_
    refine j_iconst C dX6_size_9 rfl ?_
    refine j_bipush C dX6_size_10 rfl ?_
    obtain ⟨p3, ep3, h⟩ := bind_some h
    have qp3 := X6_number_ct ep3
    refine j_cVI C dX6_size_12 vl_X6_79 CF6 rfl qp3.1 qp3.2 (by omega) rfl rfl (Nat.le_of_ble_eq_true rfl) ?_
    refine j_if_ne C 20 dX6_size_15 rfl h (fun c12 h => ?_) (fun c12 h => ?_)
    · refine j_aload_n C dX6_size_20 rfl ?_
      refine j_getI C dX6_size_21 CF6 (by decide) fl_X6_31 rfl rfl h (fun t4 h => ?_)
      refine j_istore_n (ls' := [some (vR _), some (vR _), some (vI _)]) C dX6_size_24 (by decide) rfl ?_
      refine j_aload_n C dX6_size_25 rfl ?_
      refine j_iconst C dX6_size_26 rfl ?_
      refine j_bipush C dX6_size_27 rfl ?_
      obtain ⟨p5, ep5, h⟩ := bind_some h
      have qp5 := X6_number_ct ep5
      refine j_cVI C dX6_size_29 vl_X6_79 CF6 rfl qp5.1 qp5.2 (by omega) rfl rfl (Nat.le_of_ble_eq_true rfl) ?_
      refine j_if_ne C 37 dX6_size_32 rfl h (fun c10 h => ?_) (fun c10 h => ?_)
      · refine j_aload_n C dX6_size_37 rfl ?_
        refine j_iload_n C dX6_size_38 rfl ?_
        refine j_aload_n C dX6_size_39 rfl ?_
        refine j_getI C dX6_size_40 CF6 (by decide) fl_X6_31 rfl rfl h (fun t6 h => ?_)
        obtain ⟨p7, ep7, h⟩ := bind_some h
        have qp7 := X5_spread_ct ep7
        refine j_cVV C dX6_size_43 vl_X6_82 CF5 rfl qp7.1 qp7.2 (by omega) rfl rfl (Nat.le_of_ble_eq_true rfl) ?_
        refine j_iconst C dX6_size_46 rfl ?_
        obtain ⟨r8, er8, h⟩ := bind_some h
        have e := Option.some.inj h
        subst e
        exact j_rz C dX6_size_47 rfl (retZ_some er8) rfl
      · refine j_iconst C dX6_size_35 rfl ?_
        obtain ⟨r9, er9, h⟩ := bind_some h
        have e := Option.some.inj h
        subst e
        exact j_rz C dX6_size_36 rfl (retZ_some er9) rfl
    · refine j_iconst C dX6_size_18 rfl ?_
      obtain ⟨r11, er11, h⟩ := bind_some h
      have e := Option.some.inj h
      subst e
      exact j_rz C dX6_size_19 rfl (retZ_some er11) rfl
theorem dX6_sign_0 : decode cX6_sign 0 = .ok (.aload_n 0, 1) := by decide +kernel
theorem dX6_sign_1 : decode cX6_sign 1 = .ok (.getfield 22, 3) := by decide +kernel
theorem dX6_sign_4 : decode cX6_sign 4 = .ok (.iconst 5, 1) := by decide +kernel
theorem dX6_sign_5 : decode cX6_sign 5 = .ok (.if_icmp .ne 24, 3) := by decide +kernel
theorem dX6_sign_8 : decode cX6_sign 8 = .ok (.aload_n 0, 1) := by decide +kernel
theorem dX6_sign_9 : decode cX6_sign 9 = .ok (.getfield 28, 3) := by decide +kernel
theorem dX6_sign_12 : decode cX6_sign 12 = .ok (.iload_n 1, 1) := by decide +kernel
theorem dX6_sign_13 : decode cX6_sign 13 = .ok (.if_icmp .ne 16, 3) := by decide +kernel
theorem dX6_sign_16 : decode cX6_sign 16 = .ok (.aload_n 0, 1) := by decide +kernel
theorem dX6_sign_17 : decode cX6_sign 17 = .ok (.aload_n 0, 1) := by decide +kernel
theorem dX6_sign_18 : decode cX6_sign 18 = .ok (.getfield 18, 3) := by decide +kernel
theorem dX6_sign_21 : decode cX6_sign 21 = .ok (.iconst 1, 1) := by decide +kernel
theorem dX6_sign_22 : decode cX6_sign 22 = .ok (.iadd, 1) := by decide +kernel
theorem dX6_sign_23 : decode cX6_sign 23 = .ok (.invokevirtual 61, 3) := by decide +kernel
theorem dX6_sign_26 : decode cX6_sign 26 = .ok (.goto 7, 3) := by decide +kernel
theorem dX6_sign_29 : decode cX6_sign 29 = .ok (.aload_n 0, 1) := by decide +kernel
theorem dX6_sign_30 : decode cX6_sign 30 = .ok (.invokevirtual 139, 3) := by decide +kernel
theorem dX6_sign_33 : decode cX6_sign 33 = .ok (.ireturn, 1) := by decide +kernel
set_option maxRecDepth 100000 in
set_option maxHeartbeats 4000000 in
theorem X6_sign_J29_ok {g : Gm} {w : Wd} (C : Cx g w RX6 cX6_sign 2 (some .boolean)) {lv : Nat} (hlv : 1 < lv) {l0 : Nat} {m : Mem} {out : (Int × Mem)} (h : X6_sign_J29 l0 m = some out) : Jd g w 2 (rmL lv 0 0) (Qm g w (some (vI out.1)) out.2) 29 [some (vR l0), none] [] 312 m 0 0 := by
  unfold X6_sign_J29 at h
  refine j_aload_n C dX6_sign_29 rfl ?_
  obtain ⟨p2, ep2, h⟩ := bind_some h
  have qp2 := X6_unexpected_ct ep2
  refine j_cVI C dX6_sign_30 vl_X6_139 CF6 rfl qp2.1 qp2.2 (by omega) rfl rfl (Nat.le_of_ble_eq_true rfl) ?_
  obtain ⟨r3, er3, h⟩ := bind_some h
  have e := Option.some.inj h
  subst e
  exact j_rz C dX6_sign_33 rfl (retZ_some er3) rfl
set_option maxRecDepth 100000 in
set_option maxHeartbeats 4000000 in
theorem X6_sign_ct {l0 : Nat} {l1 : Int} {m : Mem} {out : (Int × Mem)} (h : X6_sign l0 l1 m = some out) : shK l0 = 6 + 10 ∧ CT yX6_sign cX6_sign 2 (some .boolean) 2 0 0 [vR l0, vI l1] 312 m (some (vI out.1)) 312 out.2 := by
  unfold X6_sign at h
  obtain ⟨hK, h⟩ := ite_some h
  have hlv : 1 < 2 := by decide
  refine ⟨hK, CT.of (by decide +kernel) rfl (Nat.le_of_ble_eq_true rfl) (ls := [some (vR l0), some (vI l1)]) rfl fun g w C _ => ?_⟩
  refine j_aload_n C dX6_sign_0 rfl ?_
  refine j_getI C dX6_sign_1 CF6 (by decide) fl_X6_22 rfl rfl h (fun t1 h => ?_)
  refine j_iconst C dX6_sign_4 rfl ?_
  refine j_icmp_ne C 29 dX6_sign_5 rfl h (fun c9 h => ?_) (fun c9 h => ?_)
  · refine j_mask [true, false] (ls' := [some (vR _), none]) rfl ?_
    exact X6_sign_J29_ok C hlv h
  · refine j_aload_n C dX6_sign_8 rfl ?_
    refine j_getI C dX6_sign_9 CF6 (by decide) fl_X6_28 rfl rfl h (fun t4 h => ?_)
    refine j_iload_n C dX6_sign_12 rfl ?_
    refine j_icmp_ne C 29 dX6_sign_13 rfl h (fun c8 h => ?_) (fun c8 h => ?_)
    · refine j_mask [true, false] (ls' := [some (vR _), none]) rfl ?_
      exact X6_sign_J29_ok C hlv h
    · refine j_aload_n C dX6_sign_16 rfl ?_
      refine j_aload_n C dX6_sign_17 rfl ?_
      refine j_getI C dX6_sign_18 CF6 (by decide) fl_X6_18 rfl rfl h (fun t5 h => ?_)
      refine j_iconst C dX6_sign_21 rfl ?_
      refine j_iadd C dX6_sign_22 ?_
      obtain ⟨p6, ep6, h⟩ := bind_some h
      have qp6 := X6_goTo_ct ep6
      refine j_cVI C dX6_sign_23 vl_X6_61 CF6 rfl qp6.1 qp6.2 (by omega) rfl rfl (Nat.le_of_ble_eq_true rfl) ?_
      refine j_goto C 33 dX6_sign_26 rfl ?_
      obtain ⟨r7, er7, h⟩ := bind_some h
      have e := Option.some.inj h
      subst e
      exact j_rz C dX6_sign_33 rfl (retZ_some er7) rfl
theorem dX6_close_0 : decode cX6_close 0 = .ok (.aload_n 0, 1) := by decide +kernel
theorem dX6_close_1 : decode cX6_close 1 = .ok (.dup, 1) := by decide +kernel
theorem dX6_close_2 : decode cX6_close 2 = .ok (.getfield 49, 3) := by decide +kernel
theorem dX6_close_5 : decode cX6_close 5 = .ok (.iconst 1, 1) := by decide +kernel
theorem dX6_close_6 : decode cX6_close 6 = .ok (.iadd, 1) := by decide +kernel
theorem dX6_close_7 : decode cX6_close 7 = .ok (.putfield 49, 3) := by decide +kernel
theorem dX6_close_10 : decode cX6_close 10 = .ok (.aload_n 0, 1) := by decide +kernel
theorem dX6_close_11 : decode cX6_close 11 = .ok (.bipush 59, 2) := by decide +kernel
theorem dX6_close_13 : decode cX6_close 13 = .ok (.invokevirtual 86, 3) := by decide +kernel
theorem dX6_close_16 : decode cX6_close 16 = .ok (.ireturn, 1) := by decide +kernel
set_option maxRecDepth 100000 in
set_option maxHeartbeats 4000000 in
theorem X6_close_ct {l0 : Nat} {m : Mem} {out : (Int × Mem)} (h : X6_close l0 m = some out) : shK l0 = 6 + 10 ∧ CT yX6_close cX6_close 1 (some .boolean) 3 0 0 [vR l0] 312 m (some (vI out.1)) 312 out.2 := by
  unfold X6_close at h
  obtain ⟨hK, h⟩ := ite_some h
  have hlv : 2 < 3 := by decide
  refine ⟨hK, CT.of (by decide +kernel) rfl (Nat.le_of_ble_eq_true rfl) (ls := [some (vR l0)]) rfl fun g w C _ => ?_⟩
  refine j_aload_n C dX6_close_0 rfl ?_
  refine j_dup C dX6_close_1 rfl ?_
  refine j_getI C dX6_close_2 CF6 (by decide) fl_X6_49 rfl rfl h (fun t1 h => ?_)
  refine j_iconst C dX6_close_5 rfl ?_
  refine j_iadd C dX6_close_6 ?_
  refine j_putI C dX6_close_7 CF6 (by decide) fl_X6_49 rfl rfl rfl rfl h (fun m2 h => ?_)
  refine j_aload_n C dX6_close_10 rfl ?_
  refine j_bipush C dX6_close_11 rfl ?_
  obtain ⟨p3, ep3, h⟩ := bind_some h
  have qp3 := X6_sign_ct ep3
  refine j_cVI C dX6_close_13 vl_X6_86 CF6 rfl qp3.1 qp3.2 (by omega) rfl rfl (Nat.le_of_ble_eq_true rfl) ?_
  obtain ⟨r4, er4, h⟩ := bind_some h
  have e := Option.some.inj h
  subst e
  exact j_rz C dX6_close_16 rfl (retZ_some er4) rfl
theorem dX6_isOneTooMany_0 : decode cX6_isOneTooMany 0 = .ok (.iload_n 1, 1) := by decide +kernel
theorem dX6_isOneTooMany_1 : decode cX6_isOneTooMany 1 = .ok (.tableswitch 135 3 12 #[55, 73, 88, 102, 135, 102, 102, 135, 117, 126], 55) := by decide +kernel
theorem dX6_isOneTooMany_56 : decode cX6_isOneTooMany 56 = .ok (.aload_n 0, 1) := by decide +kernel
theorem dX6_isOneTooMany_57 : decode cX6_isOneTooMany 57 = .ok (.getfield 142, 3) := by decide +kernel
theorem dX6_isOneTooMany_60 : decode cX6_isOneTooMany 60 = .ok (.invokevirtual 146, 3) := by decide +kernel
theorem dX6_isOneTooMany_63 : decode cX6_isOneTooMany 63 = .ok (.bipush 12, 2) := by decide +kernel
theorem dX6_isOneTooMany_65 : decode cX6_isOneTooMany 65 = .ok (.if_icmp .lt 7, 3) := by decide +kernel
theorem dX6_isOneTooMany_68 : decode cX6_isOneTooMany 68 = .ok (.iconst 1, 1) := by decide +kernel
theorem dX6_isOneTooMany_69 : decode cX6_isOneTooMany 69 = .ok (.goto 4, 3) := by decide +kernel
theorem dX6_isOneTooMany_72 : decode cX6_isOneTooMany 72 = .ok (.iconst 0, 1) := by decide +kernel
theorem dX6_isOneTooMany_73 : decode cX6_isOneTooMany 73 = .ok (.ireturn, 1) := by decide +kernel
theorem dX6_isOneTooMany_74 : decode cX6_isOneTooMany 74 = .ok (.aload_n 0, 1) := by decide +kernel
theorem dX6_isOneTooMany_75 : decode cX6_isOneTooMany 75 = .ok (.invokevirtual 152, 3) := by decide +kernel
theorem dX6_isOneTooMany_78 : decode cX6_isOneTooMany 78 = .ok (.bipush 6, 2) := by decide +kernel
theorem dX6_isOneTooMany_80 : decode cX6_isOneTooMany 80 = .ok (.if_icmp .lt 7, 3) := by decide +kernel
theorem dX6_isOneTooMany_83 : decode cX6_isOneTooMany 83 = .ok (.iconst 1, 1) := by decide +kernel
theorem dX6_isOneTooMany_84 : decode cX6_isOneTooMany 84 = .ok (.goto 4, 3) := by decide +kernel
theorem dX6_isOneTooMany_87 : decode cX6_isOneTooMany 87 = .ok (.iconst 0, 1) := by decide +kernel
theorem dX6_isOneTooMany_88 : decode cX6_isOneTooMany 88 = .ok (.ireturn, 1) := by decide +kernel
theorem dX6_isOneTooMany_89 : decode cX6_isOneTooMany 89 = .ok (.aload_n 0, 1) := by decide +kernel
theorem dX6_isOneTooMany_90 : decode cX6_isOneTooMany 90 = .ok (.getfield 155, 3) := by decide +kernel
theorem dX6_isOneTooMany_93 : decode cX6_isOneTooMany 93 = .ok (.iconst 5, 1) := by decide +kernel
theorem dX6_isOneTooMany_94 : decode cX6_isOneTooMany 94 = .ok (.if_icmp .lt 7, 3) := by decide +kernel
theorem dX6_isOneTooMany_97 : decode cX6_isOneTooMany 97 = .ok (.iconst 1, 1) := by decide +kernel
theorem dX6_isOneTooMany_98 : decode cX6_isOneTooMany 98 = .ok (.goto 4, 3) := by decide +kernel
theorem dX6_isOneTooMany_101 : decode cX6_isOneTooMany 101 = .ok (.iconst 0, 1) := by decide +kernel
theorem dX6_isOneTooMany_102 : decode cX6_isOneTooMany 102 = .ok (.ireturn, 1) := by decide +kernel
theorem dX6_isOneTooMany_103 : decode cX6_isOneTooMany 103 = .ok (.aload_n 0, 1) := by decide +kernel
theorem dX6_isOneTooMany_104 : decode cX6_isOneTooMany 104 = .ok (.getfield 158, 3) := by decide +kernel
theorem dX6_isOneTooMany_107 : decode cX6_isOneTooMany 107 = .ok (.bipush 10, 2) := by decide +kernel
theorem dX6_isOneTooMany_109 : decode cX6_isOneTooMany 109 = .ok (.if_icmp .lt 7, 3) := by decide +kernel
theorem dX6_isOneTooMany_112 : decode cX6_isOneTooMany 112 = .ok (.iconst 1, 1) := by decide +kernel
theorem dX6_isOneTooMany_113 : decode cX6_isOneTooMany 113 = .ok (.goto 4, 3) := by decide +kernel
theorem dX6_isOneTooMany_116 : decode cX6_isOneTooMany 116 = .ok (.iconst 0, 1) := by decide +kernel
theorem dX6_isOneTooMany_117 : decode cX6_isOneTooMany 117 = .ok (.ireturn, 1) := by decide +kernel
theorem dX6_isOneTooMany_118 : decode cX6_isOneTooMany 118 = .ok (.aload_n 0, 1) := by decide +kernel
theorem dX6_isOneTooMany_119 : decode cX6_isOneTooMany 119 = .ok (.getfield 117, 3) := by decide +kernel
theorem dX6_isOneTooMany_122 : decode cX6_isOneTooMany 122 = .ok (.iconst 0, 1) := by decide +kernel
theorem dX6_isOneTooMany_123 : decode cX6_isOneTooMany 123 = .ok (.invokevirtual 161, 3) := by decide +kernel
theorem dX6_isOneTooMany_126 : decode cX6_isOneTooMany 126 = .ok (.ireturn, 1) := by decide +kernel
theorem dX6_isOneTooMany_127 : decode cX6_isOneTooMany 127 = .ok (.aload_n 0, 1) := by decide +kernel
theorem dX6_isOneTooMany_128 : decode cX6_isOneTooMany 128 = .ok (.getfield 117, 3) := by decide +kernel
theorem dX6_isOneTooMany_131 : decode cX6_isOneTooMany 131 = .ok (.iconst 1, 1) := by decide +kernel
theorem dX6_isOneTooMany_132 : decode cX6_isOneTooMany 132 = .ok (.invokevirtual 161, 3) := by decide +kernel
theorem dX6_isOneTooMany_135 : decode cX6_isOneTooMany 135 = .ok (.ireturn, 1) := by decide +kernel
theorem dX6_isOneTooMany_136 : decode cX6_isOneTooMany 136 = .ok (.iconst 0, 1) := by decide +kernel
theorem dX6_isOneTooMany_137 : decode cX6_isOneTooMany 137 = .ok (.ireturn, 1) := by decide +kernel
set_option maxRecDepth 100000 in
set_option maxHeartbeats 4000000 in
theorem X6_isOneTooMany_J103_ok {g : Gm} {w : Wd} (C : Cx g w RX6 cX6_isOneTooMany 2 (some .boolean)) {lv : Nat} (hlv : 1 < lv) {N : Nat} {l0 : Nat} {m : Mem} {out : Int} (h : X6_isOneTooMany_J103 N l0 m = some out) : Jd g w 2 (rmL lv 0 0) (Qm g w (some (vI out)) m) 103 [some (vR l0), none] [] 312 m 0 0 := by
  unfold X6_isOneTooMany_J103 at h
  refine j_aload_n C dX6_isOneTooMany_103 rfl ?_
  refine j_getI C dX6_isOneTooMany_104 CF5 (by decide) fl_X6_158 rfl rfl h (fun t11 h => ?_)
  refine j_bipush C dX6_isOneTooMany_107 rfl ?_
  refine j_icmp_lt C 116 dX6_isOneTooMany_109 rfl h (fun c12 h => ?_) (fun c12 h => ?_)
  · refine j_iconst C dX6_isOneTooMany_116 rfl ?_
    exact j_rz C dX6_isOneTooMany_117 rfl (retZ_some h) rfl
  · refine j_iconst C dX6_isOneTooMany_112 rfl ?_
    refine j_goto C 117 dX6_isOneTooMany_113 rfl ?_
    exact j_rz C dX6_isOneTooMany_117 rfl (retZ_some h) rfl
set_option maxRecDepth 100000 in
set_option maxHeartbeats 4000000 in
theorem X6_isOneTooMany_ct {N : Nat} {l0 : Nat} {l1 : Int} {m : Mem} {out : Int} (h : X6_isOneTooMany N l0 l1 m = some out) : CT yX6_isOneTooMany cX6_isOneTooMany 2 (some .boolean) 2 0 0 [vR l0, vI l1] 312 m (some (vI out)) 312 m := by
  unfold X6_isOneTooMany at h
  have hlv : 1 < 2 := by decide
  refine CT.of (by decide +kernel) rfl (Nat.le_of_ble_eq_true rfl) (ls := [some (vR l0), some (vI l1)]) rfl fun g w C _ => ?_
  refine j_iload_n C dX6_isOneTooMany_0 rfl ?_
  rcases ite_cases h with ⟨c4, h⟩ | ⟨c4, h⟩
  · refine j_tsIn C 56 (3) dX6_isOneTooMany_1 c4 rfl rfl rfl ?_
    refine j_aload_n C dX6_isOneTooMany_56 rfl ?_
    refine j_getR C dX6_isOneTooMany_57 CF5 (by decide) fl_X6_142 rfl rfl h (fun t1 h => ?_)
    obtain ⟨p2, ep2, h⟩ := bind_some h
    have qp2 := X1_walls_ct ep2
    refine j_cVI C dX6_isOneTooMany_60 vl_X6_146 CF1 rfl qp2.1 qp2.2 (by omega) rfl rfl (Nat.le_of_ble_eq_true rfl) ?_
    refine j_bipush C dX6_isOneTooMany_63 rfl ?_
    refine j_icmp_lt C 72 dX6_isOneTooMany_65 rfl h (fun c3 h => ?_) (fun c3 h => ?_)
    · refine j_iconst C dX6_isOneTooMany_72 rfl ?_
      exact j_rz C dX6_isOneTooMany_73 rfl (retZ_some h) rfl
    · refine j_iconst C dX6_isOneTooMany_68 rfl ?_
      refine j_goto C 73 dX6_isOneTooMany_69 rfl ?_
      exact j_rz C dX6_isOneTooMany_73 rfl (retZ_some h) rfl
  rcases ite_cases h with ⟨c7, h⟩ | ⟨c7, h⟩
  · refine j_tsIn C 74 (4) dX6_isOneTooMany_1 c7 rfl rfl rfl ?_
    refine j_aload_n C dX6_isOneTooMany_74 rfl ?_
    obtain ⟨p5, ep5, h⟩ := bind_some h
    have qp5 := X5_houses_ct ep5
    refine j_cVI C dX6_isOneTooMany_75 vl_X6_152 CF5 rfl qp5.1 qp5.2 (by omega) rfl rfl (Nat.le_of_ble_eq_true rfl) ?_
    refine j_bipush C dX6_isOneTooMany_78 rfl ?_
    refine j_icmp_lt C 87 dX6_isOneTooMany_80 rfl h (fun c6 h => ?_) (fun c6 h => ?_)
    · refine j_iconst C dX6_isOneTooMany_87 rfl ?_
      exact j_rz C dX6_isOneTooMany_88 rfl (retZ_some h) rfl
    · refine j_iconst C dX6_isOneTooMany_83 rfl ?_
      refine j_goto C 88 dX6_isOneTooMany_84 rfl ?_
      exact j_rz C dX6_isOneTooMany_88 rfl (retZ_some h) rfl
  rcases ite_cases h with ⟨c10, h⟩ | ⟨c10, h⟩
  · refine j_tsIn C 89 (5) dX6_isOneTooMany_1 c10 rfl rfl rfl ?_
    refine j_aload_n C dX6_isOneTooMany_89 rfl ?_
    refine j_getI C dX6_isOneTooMany_90 CF5 (by decide) fl_X6_155 rfl rfl h (fun t8 h => ?_)
    refine j_iconst C dX6_isOneTooMany_93 rfl ?_
    refine j_icmp_lt C 101 dX6_isOneTooMany_94 rfl h (fun c9 h => ?_) (fun c9 h => ?_)
    · refine j_iconst C dX6_isOneTooMany_101 rfl ?_
      exact j_rz C dX6_isOneTooMany_102 rfl (retZ_some h) rfl
    · refine j_iconst C dX6_isOneTooMany_97 rfl ?_
      refine j_goto C 102 dX6_isOneTooMany_98 rfl ?_
      exact j_rz C dX6_isOneTooMany_102 rfl (retZ_some h) rfl
  rcases ite_cases h with ⟨c13, h⟩ | ⟨c13, h⟩
  · refine j_tsIn C 103 (6) dX6_isOneTooMany_1 c13 rfl rfl rfl ?_
    refine j_mask [true, false] (ls' := [some (vR _), none]) rfl ?_
    exact X6_isOneTooMany_J103_ok C hlv h
  rcases ite_cases h with ⟨c14, h⟩ | ⟨c14, h⟩
  · refine j_tsIn C 136 (7) dX6_isOneTooMany_1 c14 rfl rfl rfl ?_
    refine j_iconst C dX6_isOneTooMany_136 rfl ?_
    exact j_rz C dX6_isOneTooMany_137 rfl (retZ_some h) rfl
  rcases ite_cases h with ⟨c15, h⟩ | ⟨c15, h⟩
  · refine j_tsIn C 103 (8) dX6_isOneTooMany_1 c15 rfl rfl rfl ?_
    refine j_mask [true, false] (ls' := [some (vR _), none]) rfl ?_
    exact X6_isOneTooMany_J103_ok C hlv h
  rcases ite_cases h with ⟨c16, h⟩ | ⟨c16, h⟩
  · refine j_tsIn C 103 (9) dX6_isOneTooMany_1 c16 rfl rfl rfl ?_
    refine j_mask [true, false] (ls' := [some (vR _), none]) rfl ?_
    exact X6_isOneTooMany_J103_ok C hlv h
  rcases ite_cases h with ⟨c17, h⟩ | ⟨c17, h⟩
  · refine j_tsIn C 136 (10) dX6_isOneTooMany_1 c17 rfl rfl rfl ?_
    refine j_iconst C dX6_isOneTooMany_136 rfl ?_
    exact j_rz C dX6_isOneTooMany_137 rfl (retZ_some h) rfl
  rcases ite_cases h with ⟨c20, h⟩ | ⟨c20, h⟩
  · refine j_tsIn C 118 (11) dX6_isOneTooMany_1 c20 rfl rfl rfl ?_
    refine j_aload_n C dX6_isOneTooMany_118 rfl ?_
    refine j_getR C dX6_isOneTooMany_119 CF5 (by decide) fl_X6_117 rfl rfl h (fun t18 h => ?_)
    refine j_iconst C dX6_isOneTooMany_122 rfl ?_
    obtain ⟨p19, ep19, h⟩ := bind_some h
    have qp19 := X7_isTold_ct ep19
    refine j_cVI C dX6_isOneTooMany_123 vl_X6_161 CF7 rfl qp19.1 qp19.2 (by omega) rfl rfl (Nat.le_of_ble_eq_true rfl) ?_
    exact j_rz C dX6_isOneTooMany_126 rfl (retZ_some h) rfl
  rcases ite_cases h with ⟨c23, h⟩ | ⟨c23, h⟩
  · refine j_tsIn C 127 (12) dX6_isOneTooMany_1 c23 rfl rfl rfl ?_
    refine j_aload_n C dX6_isOneTooMany_127 rfl ?_
    refine j_getR C dX6_isOneTooMany_128 CF5 (by decide) fl_X6_117 rfl rfl h (fun t21 h => ?_)
    refine j_iconst C dX6_isOneTooMany_131 rfl ?_
    obtain ⟨p22, ep22, h⟩ := bind_some h
    have qp22 := X7_isTold_ct ep22
    refine j_cVI C dX6_isOneTooMany_132 vl_X6_161 CF7 rfl qp22.1 qp22.2 (by omega) rfl rfl (Nat.le_of_ble_eq_true rfl) ?_
    exact j_rz C dX6_isOneTooMany_135 rfl (retZ_some h) rfl
  refine j_tsOut C 136 dX6_isOneTooMany_1 (by omega) rfl ?_
  refine j_iconst C dX6_isOneTooMany_136 rfl ?_
  exact j_rz C dX6_isOneTooMany_137 rfl (retZ_some h) rfl
theorem dX6_spot_0 : decode cX6_spot 0 = .ok (.aload_n 0, 1) := by decide +kernel
theorem dX6_spot_1 : decode cX6_spot 1 = .ok (.iconst 2, 1) := by decide +kernel
theorem dX6_spot_2 : decode cX6_spot 2 = .ok (.invokevirtual 76, 3) := by decide +kernel
theorem dX6_spot_5 : decode cX6_spot 5 = .ok (.ifCond .eq 17, 3) := by decide +kernel
theorem dX6_spot_8 : decode cX6_spot 8 = .ok (.aload_n 0, 1) := by decide +kernel
theorem dX6_spot_9 : decode cX6_spot 9 = .ok (.iconst 0, 1) := by decide +kernel
theorem dX6_spot_10 : decode cX6_spot 10 = .ok (.aload_n 1, 1) := by decide +kernel
theorem dX6_spot_11 : decode cX6_spot 11 = .ok (.getfield 222, 3) := by decide +kernel
theorem dX6_spot_14 : decode cX6_spot 14 = .ok (.iconst 1, 1) := by decide +kernel
theorem dX6_spot_15 : decode cX6_spot 15 = .ok (.isub, 1) := by decide +kernel
theorem dX6_spot_16 : decode cX6_spot 16 = .ok (.invokevirtual 79, 3) := by decide +kernel
theorem dX6_spot_19 : decode cX6_spot 19 = .ok (.ifCond .ne 5, 3) := by decide +kernel
theorem dX6_spot_22 : decode cX6_spot 22 = .ok (.iconst 0, 1) := by decide +kernel
theorem dX6_spot_23 : decode cX6_spot 23 = .ok (.ireturn, 1) := by decide +kernel
theorem dX6_spot_24 : decode cX6_spot 24 = .ok (.aload_n 0, 1) := by decide +kernel
theorem dX6_spot_25 : decode cX6_spot 25 = .ok (.getfield 31, 3) := by decide +kernel
theorem dX6_spot_28 : decode cX6_spot 28 = .ok (.istore_n 3, 1) := by decide +kernel
theorem dX6_spot_29 : decode cX6_spot 29 = .ok (.aload_n 0, 1) := by decide +kernel
theorem dX6_spot_30 : decode cX6_spot 30 = .ok (.iconst 0, 1) := by decide +kernel
theorem dX6_spot_31 : decode cX6_spot 31 = .ok (.aload_n 1, 1) := by decide +kernel
theorem dX6_spot_32 : decode cX6_spot 32 = .ok (.getfield 225, 3) := by decide +kernel
theorem dX6_spot_35 : decode cX6_spot 35 = .ok (.iconst 1, 1) := by decide +kernel
theorem dX6_spot_36 : decode cX6_spot 36 = .ok (.isub, 1) := by decide +kernel
theorem dX6_spot_37 : decode cX6_spot 37 = .ok (.invokevirtual 79, 3) := by decide +kernel
theorem dX6_spot_40 : decode cX6_spot 40 = .ok (.ifCond .ne 5, 3) := by decide +kernel
theorem dX6_spot_43 : decode cX6_spot 43 = .ok (.iconst 0, 1) := by decide +kernel
theorem dX6_spot_44 : decode cX6_spot 44 = .ok (.ireturn, 1) := by decide +kernel
theorem dX6_spot_45 : decode cX6_spot 45 = .ok (.aload_n 0, 1) := by decide +kernel
theorem dX6_spot_46 : decode cX6_spot 46 = .ok (.aload_n 1, 1) := by decide +kernel
theorem dX6_spot_47 : decode cX6_spot 47 = .ok (.iload_n 3, 1) := by decide +kernel
theorem dX6_spot_48 : decode cX6_spot 48 = .ok (.aload_n 0, 1) := by decide +kernel
theorem dX6_spot_49 : decode cX6_spot 49 = .ok (.getfield 31, 3) := by decide +kernel
theorem dX6_spot_52 : decode cX6_spot 52 = .ok (.invokevirtual 228, 3) := by decide +kernel
theorem dX6_spot_55 : decode cX6_spot 55 = .ok (.putfield 40, 3) := by decide +kernel
theorem dX6_spot_58 : decode cX6_spot 58 = .ok (.aload_n 1, 1) := by decide +kernel
theorem dX6_spot_59 : decode cX6_spot 59 = .ok (.aload_n 0, 1) := by decide +kernel
theorem dX6_spot_60 : decode cX6_spot 60 = .ok (.getfield 40, 3) := by decide +kernel
theorem dX6_spot_63 : decode cX6_spot 63 = .ok (.invokevirtual 232, 3) := by decide +kernel
theorem dX6_spot_66 : decode cX6_spot 66 = .ok (.ifCond .eq 22, 3) := by decide +kernel
theorem dX6_spot_69 : decode cX6_spot 69 = .ok (.iload_n 2, 1) := by decide +kernel
theorem dX6_spot_70 : decode cX6_spot 70 = .ok (.ifCond .eq 28, 3) := by decide +kernel
theorem dX6_spot_73 : decode cX6_spot 73 = .ok (.aload_n 1, 1) := by decide +kernel
theorem dX6_spot_74 : decode cX6_spot 74 = .ok (.aload_n 1, 1) := by decide +kernel
theorem dX6_spot_75 : decode cX6_spot 75 = .ok (.getfield 142, 3) := by decide +kernel
theorem dX6_spot_78 : decode cX6_spot 78 = .ok (.aload_n 0, 1) := by decide +kernel
theorem dX6_spot_79 : decode cX6_spot 79 = .ok (.getfield 40, 3) := by decide +kernel
theorem dX6_spot_82 : decode cX6_spot 82 = .ok (.invokevirtual 235, 3) := by decide +kernel
theorem dX6_spot_85 : decode cX6_spot 85 = .ok (.ifCond .eq 13, 3) := by decide +kernel
theorem dX6_spot_88 : decode cX6_spot 88 = .ok (.aload_n 0, 1) := by decide +kernel
theorem dX6_spot_89 : decode cX6_spot 89 = .ok (.iconst 4, 1) := by decide +kernel
theorem dX6_spot_90 : decode cX6_spot 90 = .ok (.aload_n 0, 1) := by decide +kernel
theorem dX6_spot_91 : decode cX6_spot 91 = .ok (.getfield 34, 3) := by decide +kernel
theorem dX6_spot_94 : decode cX6_spot 94 = .ok (.invokevirtual 94, 3) := by decide +kernel
theorem dX6_spot_97 : decode cX6_spot 97 = .ok (.ireturn, 1) := by decide +kernel
theorem dX6_spot_98 : decode cX6_spot 98 = .ok (.iconst 1, 1) := by decide +kernel
theorem dX6_spot_99 : decode cX6_spot 99 = .ok (.ireturn, 1) := by decide +kernel
set_option maxRecDepth 100000 in
set_option maxHeartbeats 4000000 in
theorem X6_spot_J88_ok {g : Gm} {w : Wd} (C : Cx g w RX6 cX6_spot 4 (some .boolean)) {lv : Nat} (hlv : 2 < lv) {N : Nat} {l0 : Nat} {m : Mem} {out : (Int × Mem)} (h : X6_spot_J88 N l0 m = some out) : Jd g w 4 (rmL lv 0 0) (Qm g w (some (vI out.1)) out.2) 88 [some (vR l0), none, none, none] [] 312 m 0 0 := by
  unfold X6_spot_J88 at h
  refine j_aload_n C dX6_spot_88 rfl ?_
  refine j_iconst C dX6_spot_89 rfl ?_
  refine j_aload_n C dX6_spot_90 rfl ?_
  refine j_getI C dX6_spot_91 CF6 (by decide) fl_X6_34 rfl rfl h (fun t13 h => ?_)
  obtain ⟨p14, ep14, h⟩ := bind_some h
  have qp14 := X6_refuse_ct ep14
  refine j_cVI C dX6_spot_94 vl_X6_94 CF6 rfl qp14.1 qp14.2 (by omega) rfl rfl (Nat.le_of_ble_eq_true rfl) ?_
  obtain ⟨r15, er15, h⟩ := bind_some h
  have e := Option.some.inj h
  subst e
  exact j_rz C dX6_spot_97 rfl (retZ_some er15) rfl
set_option maxRecDepth 100000 in
set_option maxHeartbeats 4000000 in
theorem X6_spot_ct {N : Nat} {l0 : Nat} {l1 : Nat} {l2 : Int} {m : Mem} {out : (Int × Mem)} (h : X6_spot N l0 l1 l2 m = some out) : shK l0 = 6 + 10 ∧ CT yX6_spot cX6_spot 4 (some .boolean) 3 0 0 [vR l0, vR l1, vI l2] 312 m (some (vI out.1)) 312 out.2 := by
  unfold X6_spot at h
  obtain ⟨hK, h⟩ := ite_some h
  have hlv : 2 < 3 := by decide
  refine ⟨hK, CT.of (by decide +kernel) rfl (Nat.le_of_ble_eq_true rfl) (ls := [some (vR l0), some (vR l1), some (vI l2), none]) rfl fun g w C _ => ?_⟩
  refine j_aload_n C dX6_spot_0 rfl ?_
  refine j_iconst C dX6_spot_1 rfl ?_
  obtain ⟨p1, ep1, h⟩ := bind_some h
  have qp1 := X6_word_ct ep1
  refine j_cVI C dX6_spot_2 vl_X6_76 CF6 rfl qp1.1 qp1.2 (by omega) rfl rfl (Nat.le_of_ble_eq_true rfl) ?_
  refine j_if_eq C 22 dX6_spot_5 rfl h (fun c28 h => ?_) (fun c28 h => ?_)
  · refine j_iconst C dX6_spot_22 rfl ?_
    obtain ⟨r2, er2, h⟩ := bind_some h
    have e := Option.some.inj h
    subst e
    exact j_rz C dX6_spot_23 rfl (retZ_some er2) rfl
  · refine j_aload_n C dX6_spot_8 rfl ?_
    refine j_iconst C dX6_spot_9 rfl ?_
    refine j_aload_n C dX6_spot_10 rfl ?_
    refine j_getI C dX6_spot_11 CF5 (by decide) fl_X6_222 rfl rfl h (fun t3 h => ?_)
    refine j_iconst C dX6_spot_14 rfl ?_
    refine j_isub C dX6_spot_15 ?_
    obtain ⟨p4, ep4, h⟩ := bind_some h
    have qp4 := X6_number_ct ep4
    refine j_cVI C dX6_spot_16 vl_X6_79 CF6 rfl qp4.1 qp4.2 (by omega) rfl rfl (Nat.le_of_ble_eq_true rfl) ?_
    refine j_if_ne C 24 dX6_spot_19 rfl h (fun c27 h => ?_) (fun c27 h => ?_)
    · refine j_aload_n C dX6_spot_24 rfl ?_
      refine j_getI C dX6_spot_25 CF6 (by decide) fl_X6_31 rfl rfl h (fun t5 h => ?_)
      refine j_istore_n (ls' := [some (vR _), some (vR _), some (vI _), some (vI _)]) C dX6_spot_28 (by decide) rfl ?_
      refine j_aload_n C dX6_spot_29 rfl ?_
      refine j_iconst C dX6_spot_30 rfl ?_
      refine j_aload_n C dX6_spot_31 rfl ?_
      refine j_getI C dX6_spot_32 CF5 (by decide) fl_X6_225 rfl rfl h (fun t6 h => ?_)
      refine j_iconst C dX6_spot_35 rfl ?_
      refine j_isub C dX6_spot_36 ?_
      obtain ⟨p7, ep7, h⟩ := bind_some h
      have qp7 := X6_number_ct ep7
      refine j_cVI C dX6_spot_37 vl_X6_79 CF6 rfl qp7.1 qp7.2 (by omega) rfl rfl (Nat.le_of_ble_eq_true rfl) ?_
      refine j_if_ne C 45 dX6_spot_40 rfl h (fun c25 h => ?_) (fun c25 h => ?_)
      · refine j_aload_n C dX6_spot_45 rfl ?_
        refine j_aload_n C dX6_spot_46 rfl ?_
        refine j_iload_n C dX6_spot_47 rfl ?_
        refine j_aload_n C dX6_spot_48 rfl ?_
        refine j_getI C dX6_spot_49 CF6 (by decide) fl_X6_31 rfl rfl h (fun t8 h => ?_)
        obtain ⟨p9, ep9, h⟩ := bind_some h
        have qp9 := X5_cellAt_ct ep9
        refine j_cVI C dX6_spot_52 vl_X6_228 CF5 rfl qp9.1 qp9.2 (by omega) rfl rfl (Nat.le_of_ble_eq_true rfl) ?_
        refine j_putI C dX6_spot_55 CF6 (by decide) fl_X6_40 rfl rfl rfl rfl h (fun m10 h => ?_)
        refine j_aload_n C dX6_spot_58 rfl ?_
        refine j_aload_n C dX6_spot_59 rfl ?_
        refine j_getI C dX6_spot_60 CF6 (by decide) fl_X6_40 rfl rfl h (fun t11 h => ?_)
        obtain ⟨p12, ep12, h⟩ := bind_some h
        have qp12 := X5_isCell_ct ep12
        refine j_cVI C dX6_spot_63 vl_X6_232 CF5 rfl qp12.1 qp12.2 (by omega) rfl rfl (Nat.le_of_ble_eq_true rfl) ?_
        refine j_if_eq C 88 dX6_spot_66 rfl h (fun c23 h => ?_) (fun c23 h => ?_)
        · refine j_mask [true, false, false, false] (ls' := [some (vR _), none, none, none]) rfl ?_
          exact X6_spot_J88_ok C hlv h
        · refine j_iload_n C dX6_spot_69 rfl ?_
          refine j_if_eq C 98 dX6_spot_70 rfl h (fun c22 h => ?_) (fun c22 h => ?_)
          · refine j_iconst C dX6_spot_98 rfl ?_
            obtain ⟨r16, er16, h⟩ := bind_some h
            have e := Option.some.inj h
            subst e
            exact j_rz C dX6_spot_99 rfl (retZ_some er16) rfl
          · refine j_aload_n C dX6_spot_73 rfl ?_
            refine j_aload_n C dX6_spot_74 rfl ?_
            refine j_getR C dX6_spot_75 CF5 (by decide) fl_X6_142 rfl rfl h (fun t17 h => ?_)
            refine j_aload_n C dX6_spot_78 rfl ?_
            refine j_getI C dX6_spot_79 CF6 (by decide) fl_X6_40 rfl rfl h (fun t18 h => ?_)
            obtain ⟨p19, ep19, h⟩ := bind_some h
            have qp19 := X5_contents_ct ep19
            refine j_cVI C dX6_spot_82 vl_X6_235 CF5 rfl qp19.1 qp19.2 (by omega) rfl rfl (Nat.le_of_ble_eq_true rfl) ?_
            refine j_if_eq C 98 dX6_spot_85 rfl h (fun c21 h => ?_) (fun c21 h => ?_)
            · refine j_iconst C dX6_spot_98 rfl ?_
              obtain ⟨r20, er20, h⟩ := bind_some h
              have e := Option.some.inj h
              subst e
              exact j_rz C dX6_spot_99 rfl (retZ_some er20) rfl
            · refine j_mask [true, false, false, false] (ls' := [some (vR _), none, none, none]) rfl ?_
              exact X6_spot_J88_ok C hlv h
      · refine j_iconst C dX6_spot_43 rfl ?_
        obtain ⟨r24, er24, h⟩ := bind_some h
        have e := Option.some.inj h
        subst e
        exact j_rz C dX6_spot_44 rfl (retZ_some er24) rfl
    · refine j_iconst C dX6_spot_22 rfl ?_
      obtain ⟨r26, er26, h⟩ := bind_some h
      have e := Option.some.inj h
      subst e
      exact j_rz C dX6_spot_23 rfl (retZ_some er26) rfl
theorem dX6_height_0 : decode cX6_height 0 = .ok (.aload_n 0, 1) := by decide +kernel
theorem dX6_height_1 : decode cX6_height 1 = .ok (.iconst 0, 1) := by decide +kernel
theorem dX6_height_2 : decode cX6_height 2 = .ok (.bipush 9, 2) := by decide +kernel
theorem dX6_height_4 : decode cX6_height 4 = .ok (.invokevirtual 79, 3) := by decide +kernel
theorem dX6_height_7 : decode cX6_height 7 = .ok (.ifCond .ne 5, 3) := by decide +kernel
theorem dX6_height_10 : decode cX6_height 10 = .ok (.iconst 0, 1) := by decide +kernel
theorem dX6_height_11 : decode cX6_height 11 = .ok (.ireturn, 1) := by decide +kernel
theorem dX6_height_12 : decode cX6_height 12 = .ok (.aload_n 0, 1) := by decide +kernel
theorem dX6_height_13 : decode cX6_height 13 = .ok (.getfield 31, 3) := by decide +kernel
theorem dX6_height_16 : decode cX6_height 16 = .ok (.istore_n 2, 1) := by decide +kernel
theorem dX6_height_17 : decode cX6_height 17 = .ok (.aload_n 0, 1) := by decide +kernel
theorem dX6_height_18 : decode cX6_height 18 = .ok (.aload_n 1, 1) := by decide +kernel
theorem dX6_height_19 : decode cX6_height 19 = .ok (.iconst 0, 1) := by decide +kernel
theorem dX6_height_20 : decode cX6_height 20 = .ok (.invokevirtual 164, 3) := by decide +kernel
theorem dX6_height_23 : decode cX6_height 23 = .ok (.ifCond .ne 5, 3) := by decide +kernel
theorem dX6_height_26 : decode cX6_height 26 = .ok (.iconst 0, 1) := by decide +kernel
theorem dX6_height_27 : decode cX6_height 27 = .ok (.ireturn, 1) := by decide +kernel
theorem dX6_height_28 : decode cX6_height 28 = .ok (.aload_n 1, 1) := by decide +kernel
theorem dX6_height_29 : decode cX6_height 29 = .ok (.getfield 167, 3) := by decide +kernel
theorem dX6_height_32 : decode cX6_height 32 = .ok (.aload_n 0, 1) := by decide +kernel
theorem dX6_height_33 : decode cX6_height 33 = .ok (.getfield 40, 3) := by decide +kernel
theorem dX6_height_36 : decode cX6_height 36 = .ok (.iload_n 2, 1) := by decide +kernel
theorem dX6_height_37 : decode cX6_height 37 = .ok (.iastore, 1) := by decide +kernel
theorem dX6_height_38 : decode cX6_height 38 = .ok (.iconst 1, 1) := by decide +kernel
theorem dX6_height_39 : decode cX6_height 39 = .ok (.ireturn, 1) := by decide +kernel
set_option maxRecDepth 100000 in
set_option maxHeartbeats 4000000 in
theorem X6_height_ct {N : Nat} {l0 : Nat} {l1 : Nat} {m : Mem} {out : (Int × Mem)} (h : X6_height N l0 l1 m = some out) : shK l0 = 6 + 10 ∧ CT yX6_height cX6_height 3 (some .boolean) 4 0 0 [vR l0, vR l1] 312 m (some (vI out.1)) 312 out.2 := by
  unfold X6_height at h
  obtain ⟨hK, h⟩ := ite_some h
  have hlv : 3 < 4 := by decide
  refine ⟨hK, CT.of (by decide +kernel) rfl (Nat.le_of_ble_eq_true rfl) (ls := [some (vR l0), some (vR l1), none]) rfl fun g w C _ => ?_⟩
  refine j_aload_n C dX6_height_0 rfl ?_
  refine j_iconst C dX6_height_1 rfl ?_
  refine j_bipush C dX6_height_2 rfl ?_
  obtain ⟨p1, ep1, h⟩ := bind_some h
  have qp1 := X6_number_ct ep1
  refine j_cVI C dX6_height_4 vl_X6_79 CF6 rfl qp1.1 qp1.2 (by omega) rfl rfl (Nat.le_of_ble_eq_true rfl) ?_
  refine j_if_ne C 12 dX6_height_7 rfl h (fun c11 h => ?_) (fun c11 h => ?_)
  · refine j_aload_n C dX6_height_12 rfl ?_
    refine j_getI C dX6_height_13 CF6 (by decide) fl_X6_31 rfl rfl h (fun t2 h => ?_)
    refine j_istore_n (ls' := [some (vR _), some (vR _), some (vI _)]) C dX6_height_16 (by decide) rfl ?_
    refine j_aload_n C dX6_height_17 rfl ?_
    refine j_aload_n C dX6_height_18 rfl ?_
    refine j_iconst C dX6_height_19 rfl ?_
    obtain ⟨p3, ep3, h⟩ := bind_some h
    have qp3 := X6_spot_ct ep3
    refine j_cVI C dX6_height_20 vl_X6_164 CF6 rfl qp3.1 qp3.2 (by omega) rfl rfl (Nat.le_of_ble_eq_true rfl) ?_
    refine j_if_ne C 28 dX6_height_23 rfl h (fun c9 h => ?_) (fun c9 h => ?_)
    · refine j_aload_n C dX6_height_28 rfl ?_
      refine j_getR C dX6_height_29 CF5 (by decide) fl_X6_167 rfl rfl h (fun t4 h => ?_)
      refine j_aload_n C dX6_height_32 rfl ?_
      refine j_getI C dX6_height_33 CF6 (by decide) fl_X6_40 rfl rfl h (fun t5 h => ?_)
      refine j_iload_n C dX6_height_36 rfl ?_
      refine j_iast C dX6_height_37 rfl h (fun m6 h => ?_)
      refine j_iconst C dX6_height_38 rfl ?_
      obtain ⟨r7, er7, h⟩ := bind_some h
      have e := Option.some.inj h
      subst e
      exact j_rz C dX6_height_39 rfl (retZ_some er7) rfl
    · refine j_iconst C dX6_height_26 rfl ?_
      obtain ⟨r8, er8, h⟩ := bind_some h
      have e := Option.some.inj h
      subst e
      exact j_rz C dX6_height_27 rfl (retZ_some er8) rfl
  · refine j_iconst C dX6_height_10 rfl ?_
    obtain ⟨r10, er10, h⟩ := bind_some h
    have e := Option.some.inj h
    subst e
    exact j_rz C dX6_height_11 rfl (retZ_some er10) rfl
theorem dX6_wallOf_0 : decode cX6_wallOf 0 = .ok (.aload_n 0, 1) := by decide +kernel
theorem dX6_wallOf_1 : decode cX6_wallOf 1 = .ok (.aload_n 1, 1) := by decide +kernel
theorem dX6_wallOf_2 : decode cX6_wallOf 2 = .ok (.iconst 1, 1) := by decide +kernel
theorem dX6_wallOf_3 : decode cX6_wallOf 3 = .ok (.invokevirtual 164, 3) := by decide +kernel
theorem dX6_wallOf_6 : decode cX6_wallOf 6 = .ok (.ifCond .ne 5, 3) := by decide +kernel
theorem dX6_wallOf_9 : decode cX6_wallOf 9 = .ok (.iconst 0, 1) := by decide +kernel
theorem dX6_wallOf_10 : decode cX6_wallOf 10 = .ok (.ireturn, 1) := by decide +kernel
theorem dX6_wallOf_11 : decode cX6_wallOf 11 = .ok (.aload_n 1, 1) := by decide +kernel
theorem dX6_wallOf_12 : decode cX6_wallOf 12 = .ok (.getfield 142, 3) := by decide +kernel
theorem dX6_wallOf_15 : decode cX6_wallOf 15 = .ok (.getfield 170, 3) := by decide +kernel
theorem dX6_wallOf_18 : decode cX6_wallOf 18 = .ok (.aload_n 0, 1) := by decide +kernel
theorem dX6_wallOf_19 : decode cX6_wallOf 19 = .ok (.getfield 40, 3) := by decide +kernel
theorem dX6_wallOf_22 : decode cX6_wallOf 22 = .ok (.iconst 1, 1) := by decide +kernel
theorem dX6_wallOf_23 : decode cX6_wallOf 23 = .ok (.iastore, 1) := by decide +kernel
theorem dX6_wallOf_24 : decode cX6_wallOf 24 = .ok (.iconst 1, 1) := by decide +kernel
theorem dX6_wallOf_25 : decode cX6_wallOf 25 = .ok (.ireturn, 1) := by decide +kernel
set_option maxRecDepth 100000 in
set_option maxHeartbeats 4000000 in
theorem X6_wallOf_ct {N : Nat} {l0 : Nat} {l1 : Nat} {m : Mem} {out : (Int × Mem)} (h : X6_wallOf N l0 l1 m = some out) : shK l0 = 6 + 10 ∧ CT yX6_wallOf cX6_wallOf 2 (some .boolean) 4 0 0 [vR l0, vR l1] 312 m (some (vI out.1)) 312 out.2 := by
  unfold X6_wallOf at h
  obtain ⟨hK, h⟩ := ite_some h
  have hlv : 3 < 4 := by decide
  refine ⟨hK, CT.of (by decide +kernel) rfl (Nat.le_of_ble_eq_true rfl) (ls := [some (vR l0), some (vR l1)]) rfl fun g w C _ => ?_⟩
  refine j_aload_n C dX6_wallOf_0 rfl ?_
  refine j_aload_n C dX6_wallOf_1 rfl ?_
  refine j_iconst C dX6_wallOf_2 rfl ?_
  obtain ⟨p1, ep1, h⟩ := bind_some h
  have qp1 := X6_spot_ct ep1
  refine j_cVI C dX6_wallOf_3 vl_X6_164 CF6 rfl qp1.1 qp1.2 (by omega) rfl rfl (Nat.le_of_ble_eq_true rfl) ?_
  refine j_if_ne C 11 dX6_wallOf_6 rfl h (fun c8 h => ?_) (fun c8 h => ?_)
  · refine j_aload_n C dX6_wallOf_11 rfl ?_
    refine j_getR C dX6_wallOf_12 CF5 (by decide) fl_X6_142 rfl rfl h (fun t2 h => ?_)
    refine j_getR C dX6_wallOf_15 CF1 (by decide) fl_X6_170 rfl rfl h (fun t3 h => ?_)
    refine j_aload_n C dX6_wallOf_18 rfl ?_
    refine j_getI C dX6_wallOf_19 CF6 (by decide) fl_X6_40 rfl rfl h (fun t4 h => ?_)
    refine j_iconst C dX6_wallOf_22 rfl ?_
    refine j_iast C dX6_wallOf_23 rfl h (fun m5 h => ?_)
    refine j_iconst C dX6_wallOf_24 rfl ?_
    obtain ⟨r6, er6, h⟩ := bind_some h
    have e := Option.some.inj h
    subst e
    exact j_rz C dX6_wallOf_25 rfl (retZ_some er6) rfl
  · refine j_iconst C dX6_wallOf_9 rfl ?_
    obtain ⟨r7, er7, h⟩ := bind_some h
    have e := Option.some.inj h
    subst e
    exact j_rz C dX6_wallOf_10 rfl (retZ_some er7) rfl
theorem dX6_house_0 : decode cX6_house 0 = .ok (.aload_n 0, 1) := by decide +kernel
theorem dX6_house_1 : decode cX6_house 1 = .ok (.aload_n 1, 1) := by decide +kernel
theorem dX6_house_2 : decode cX6_house 2 = .ok (.iconst 1, 1) := by decide +kernel
theorem dX6_house_3 : decode cX6_house 3 = .ok (.invokevirtual 164, 3) := by decide +kernel
theorem dX6_house_6 : decode cX6_house 6 = .ok (.ifCond .ne 5, 3) := by decide +kernel
theorem dX6_house_9 : decode cX6_house 9 = .ok (.iconst 0, 1) := by decide +kernel
theorem dX6_house_10 : decode cX6_house 10 = .ok (.ireturn, 1) := by decide +kernel
theorem dX6_house_11 : decode cX6_house 11 = .ok (.aload_n 1, 1) := by decide +kernel
theorem dX6_house_12 : decode cX6_house 12 = .ok (.getfield 173, 3) := by decide +kernel
theorem dX6_house_15 : decode cX6_house 15 = .ok (.aload_n 0, 1) := by decide +kernel
theorem dX6_house_16 : decode cX6_house 16 = .ok (.getfield 40, 3) := by decide +kernel
theorem dX6_house_19 : decode cX6_house 19 = .ok (.iconst 1, 1) := by decide +kernel
theorem dX6_house_20 : decode cX6_house 20 = .ok (.iastore, 1) := by decide +kernel
theorem dX6_house_21 : decode cX6_house 21 = .ok (.iconst 1, 1) := by decide +kernel
theorem dX6_house_22 : decode cX6_house 22 = .ok (.ireturn, 1) := by decide +kernel
set_option maxRecDepth 100000 in
set_option maxHeartbeats 4000000 in
theorem X6_house_ct {N : Nat} {l0 : Nat} {l1 : Nat} {m : Mem} {out : (Int × Mem)} (h : X6_house N l0 l1 m = some out) : shK l0 = 6 + 10 ∧ CT yX6_house cX6_house 2 (some .boolean) 4 0 0 [vR l0, vR l1] 312 m (some (vI out.1)) 312 out.2 := by
  unfold X6_house at h
  obtain ⟨hK, h⟩ := ite_some h
  have hlv : 3 < 4 := by decide
  refine ⟨hK, CT.of (by decide +kernel) rfl (Nat.le_of_ble_eq_true rfl) (ls := [some (vR l0), some (vR l1)]) rfl fun g w C _ => ?_⟩
  refine j_aload_n C dX6_house_0 rfl ?_
  refine j_aload_n C dX6_house_1 rfl ?_
  refine j_iconst C dX6_house_2 rfl ?_
  obtain ⟨p1, ep1, h⟩ := bind_some h
  have qp1 := X6_spot_ct ep1
  refine j_cVI C dX6_house_3 vl_X6_164 CF6 rfl qp1.1 qp1.2 (by omega) rfl rfl (Nat.le_of_ble_eq_true rfl) ?_
  refine j_if_ne C 11 dX6_house_6 rfl h (fun c7 h => ?_) (fun c7 h => ?_)
  · refine j_aload_n C dX6_house_11 rfl ?_
    refine j_getR C dX6_house_12 CF5 (by decide) fl_X6_173 rfl rfl h (fun t2 h => ?_)
    refine j_aload_n C dX6_house_15 rfl ?_
    refine j_getI C dX6_house_16 CF6 (by decide) fl_X6_40 rfl rfl h (fun t3 h => ?_)
    refine j_iconst C dX6_house_19 rfl ?_
    refine j_iast C dX6_house_20 rfl h (fun m4 h => ?_)
    refine j_iconst C dX6_house_21 rfl ?_
    obtain ⟨r5, er5, h⟩ := bind_some h
    have e := Option.some.inj h
    subst e
    exact j_rz C dX6_house_22 rfl (retZ_some er5) rfl
  · refine j_iconst C dX6_house_9 rfl ?_
    obtain ⟨r6, er6, h⟩ := bind_some h
    have e := Option.some.inj h
    subst e
    exact j_rz C dX6_house_10 rfl (retZ_some er6) rfl
theorem dX5_knows_0 : decode cX5_knows 0 = .ok (.iconst 0, 1) := by decide +kernel
theorem dX5_knows_1 : decode cX5_knows 1 = .ok (.istore_n 2, 1) := by decide +kernel
theorem dX5_knows_2 : decode cX5_knows 2 = .ok (.iload_n 2, 1) := by decide +kernel
theorem dX5_knows_3 : decode cX5_knows 3 = .ok (.aload_n 0, 1) := by decide +kernel
theorem dX5_knows_4 : decode cX5_knows 4 = .ok (.getfield 37, 3) := by decide +kernel
theorem dX5_knows_7 : decode cX5_knows 7 = .ok (.if_icmp .ge 21, 3) := by decide +kernel
theorem dX5_knows_10 : decode cX5_knows 10 = .ok (.aload_n 0, 1) := by decide +kernel
theorem dX5_knows_11 : decode cX5_knows 11 = .ok (.getfield 43, 3) := by decide +kernel
theorem dX5_knows_14 : decode cX5_knows 14 = .ok (.iload_n 2, 1) := by decide +kernel
theorem dX5_knows_15 : decode cX5_knows 15 = .ok (.iaload, 1) := by decide +kernel
theorem dX5_knows_16 : decode cX5_knows 16 = .ok (.iload_n 1, 1) := by decide +kernel
theorem dX5_knows_17 : decode cX5_knows 17 = .ok (.if_icmp .ne 5, 3) := by decide +kernel
theorem dX5_knows_20 : decode cX5_knows 20 = .ok (.iconst 1, 1) := by decide +kernel
theorem dX5_knows_21 : decode cX5_knows 21 = .ok (.ireturn, 1) := by decide +kernel
theorem dX5_knows_22 : decode cX5_knows 22 = .ok (.iinc 2 1, 3) := by decide +kernel
theorem dX5_knows_25 : decode cX5_knows 25 = .ok (.goto (-23), 3) := by decide +kernel
theorem dX5_knows_28 : decode cX5_knows 28 = .ok (.iconst 0, 1) := by decide +kernel
theorem dX5_knows_29 : decode cX5_knows 29 = .ok (.istore_n 2, 1) := by decide +kernel
theorem dX5_knows_30 : decode cX5_knows 30 = .ok (.iload_n 2, 1) := by decide +kernel
theorem dX5_knows_31 : decode cX5_knows 31 = .ok (.aload_n 0, 1) := by decide +kernel
theorem dX5_knows_32 : decode cX5_knows 32 = .ok (.getfield 55, 3) := by decide +kernel
theorem dX5_knows_35 : decode cX5_knows 35 = .ok (.if_icmp .ge 21, 3) := by decide +kernel
theorem dX5_knows_38 : decode cX5_knows 38 = .ok (.aload_n 0, 1) := by decide +kernel
theorem dX5_knows_39 : decode cX5_knows 39 = .ok (.getfield 61, 3) := by decide +kernel
theorem dX5_knows_42 : decode cX5_knows 42 = .ok (.iload_n 2, 1) := by decide +kernel
theorem dX5_knows_43 : decode cX5_knows 43 = .ok (.iaload, 1) := by decide +kernel
theorem dX5_knows_44 : decode cX5_knows 44 = .ok (.iload_n 1, 1) := by decide +kernel
theorem dX5_knows_45 : decode cX5_knows 45 = .ok (.if_icmp .ne 5, 3) := by decide +kernel
theorem dX5_knows_48 : decode cX5_knows 48 = .ok (.iconst 1, 1) := by decide +kernel
theorem dX5_knows_49 : decode cX5_knows 49 = .ok (.ireturn, 1) := by decide +kernel
theorem dX5_knows_50 : decode cX5_knows 50 = .ok (.iinc 2 1, 3) := by decide +kernel
theorem dX5_knows_53 : decode cX5_knows 53 = .ok (.goto (-23), 3) := by decide +kernel
theorem dX5_knows_56 : decode cX5_knows 56 = .ok (.iconst 0, 1) := by decide +kernel
theorem dX5_knows_57 : decode cX5_knows 57 = .ok (.ireturn, 1) := by decide +kernel
set_option maxRecDepth 100000 in
set_option maxHeartbeats 4000000 in
theorem X5_knows_L2_bok {g : Gm} {w : Wd} (C : Cx g w RX5 cX5_knows 3 (some .boolean)) {lv : Nat} (hlv : 0 < lv) {N : Nat} {k28 : Nat → Int → Option Int} {r2 : Nat → Int → Int → Option Int} {l0 : Nat} {l1 : Int} {l2 : Int} {m : Mem} {out : Int} (hk28 : ∀ l0 l1, k28 l0 l1 = some out → Jd g w 3 (rmL lv 0 0) (Qm g w (some (vI out)) m) 28 [some (vR l0), some (vI l1), none] [] 312 m 0 0) (hr2 : ∀ l0 l1 l2, r2 l0 l1 l2 = some out → Jd g w 3 (rmL lv 0 0) (Qm g w (some (vI out)) m) 2 [some (vR l0), some (vI l1), some (vI l2)] [] 312 m 0 0) (h : X5_knows_L2_b N k28 m r2 l0 l1 l2 = some out) : Jd g w 3 (rmL lv 0 0) (Qm g w (some (vI out)) m) 2 [some (vR l0), some (vI l1), some (vI l2)] [] 312 m 0 0 := by
  unfold X5_knows_L2_b at h
  refine j_iload_n C dX5_knows_2 rfl ?_
  refine j_aload_n C dX5_knows_3 rfl ?_
  refine j_getI C dX5_knows_4 CF5 (by decide) fl_X5_37 rfl rfl h (fun t1 h => ?_)
  refine j_icmp_ge C 28 dX5_knows_7 rfl h (fun c5 h => ?_) (fun c5 h => ?_)
  · refine j_mask [true, true, false] (ls' := [some (vR _), some (vI _), none]) rfl ?_
    exact hk28 _ _ h
  · refine j_aload_n C dX5_knows_10 rfl ?_
    refine j_getR C dX5_knows_11 CF5 (by decide) fl_X5_43 rfl rfl h (fun t2 h => ?_)
    refine j_iload_n C dX5_knows_14 rfl ?_
    refine j_iald C dX5_knows_15 rfl h (fun t3 h => ?_)
    refine j_iload_n C dX5_knows_16 rfl ?_
    refine j_icmp_ne C 22 dX5_knows_17 rfl h (fun c4 h => ?_) (fun c4 h => ?_)
    · refine j_iinc (ls' := [some (vR _), some (vI _), some (vI _)]) C dX5_knows_22 rfl (by decide) rfl ?_
      refine j_goto C 2 dX5_knows_25 rfl ?_
      exact hr2 _ _ _ h
    · refine j_iconst C dX5_knows_20 rfl ?_
      exact j_rz C dX5_knows_21 rfl (retZ_some h) rfl
set_option maxRecDepth 100000 in
set_option maxHeartbeats 4000000 in
theorem X5_knows_L2_ok {g : Gm} {w : Wd} (C : Cx g w RX5 cX5_knows 3 (some .boolean)) {lv : Nat} (hlv : 0 < lv) {N : Nat} {k28 : Nat → Int → Option Int} {m : Mem} {out : Int} (hk28 : ∀ l0 l1, k28 l0 l1 = some out → Jd g w 3 (rmL lv 0 0) (Qm g w (some (vI out)) m) 28 [some (vR l0), some (vI l1), none] [] 312 m 0 0) (f : Nat) : ∀ {l0 : Nat} {l1 : Int} {l2 : Int}, X5_knows_L2 N k28 m f l0 l1 l2 = some out → Jd g w 3 (rmL lv 0 0) (Qm g w (some (vI out)) m) 2 [some (vR l0), some (vI l1), some (vI l2)] [] 312 m 0 0 := by
  induction f with
  | zero => intro l0 l1 l2 h; exact none_ne (α := Int) h
  | succ f ih => intro l0 l1 l2 h; exact X5_knows_L2_bok C hlv hk28 (fun l0 l1 l2 h => ih h) h
set_option maxRecDepth 100000 in
set_option maxHeartbeats 4000000 in
theorem X5_knows_L30_bok {g : Gm} {w : Wd} (C : Cx g w RX5 cX5_knows 3 (some .boolean)) {lv : Nat} (hlv : 0 < lv) {N : Nat} {r30 : Nat → Int → Int → Option Int} {l0 : Nat} {l1 : Int} {l2 : Int} {m : Mem} {out : Int} (hr30 : ∀ l0 l1 l2, r30 l0 l1 l2 = some out → Jd g w 3 (rmL lv 0 0) (Qm g w (some (vI out)) m) 30 [some (vR l0), some (vI l1), some (vI l2)] [] 312 m 0 0) (h : X5_knows_L30_b N m r30 l0 l1 l2 = some out) : Jd g w 3 (rmL lv 0 0) (Qm g w (some (vI out)) m) 30 [some (vR l0), some (vI l1), some (vI l2)] [] 312 m 0 0 := by
  unfold X5_knows_L30_b at h
  refine j_iload_n C dX5_knows_30 rfl ?_
  refine j_aload_n C dX5_knows_31 rfl ?_
  refine j_getI C dX5_knows_32 CF5 (by decide) fl_X5_55 rfl rfl h (fun t8 h => ?_)
  refine j_icmp_ge C 56 dX5_knows_35 rfl h (fun c12 h => ?_) (fun c12 h => ?_)
  · refine j_iconst C dX5_knows_56 rfl ?_
    exact j_rz C dX5_knows_57 rfl (retZ_some h) rfl
  · refine j_aload_n C dX5_knows_38 rfl ?_
    refine j_getR C dX5_knows_39 CF5 (by decide) fl_X5_61 rfl rfl h (fun t9 h => ?_)
    refine j_iload_n C dX5_knows_42 rfl ?_
    refine j_iald C dX5_knows_43 rfl h (fun t10 h => ?_)
    refine j_iload_n C dX5_knows_44 rfl ?_
    refine j_icmp_ne C 50 dX5_knows_45 rfl h (fun c11 h => ?_) (fun c11 h => ?_)
    · refine j_iinc (ls' := [some (vR _), some (vI _), some (vI _)]) C dX5_knows_50 rfl (by decide) rfl ?_
      refine j_goto C 30 dX5_knows_53 rfl ?_
      exact hr30 _ _ _ h
    · refine j_iconst C dX5_knows_48 rfl ?_
      exact j_rz C dX5_knows_49 rfl (retZ_some h) rfl
set_option maxRecDepth 100000 in
set_option maxHeartbeats 4000000 in
theorem X5_knows_L30_ok {g : Gm} {w : Wd} (C : Cx g w RX5 cX5_knows 3 (some .boolean)) {lv : Nat} (hlv : 0 < lv) {N : Nat} {m : Mem} {out : Int} (f : Nat) : ∀ {l0 : Nat} {l1 : Int} {l2 : Int}, X5_knows_L30 N m f l0 l1 l2 = some out → Jd g w 3 (rmL lv 0 0) (Qm g w (some (vI out)) m) 30 [some (vR l0), some (vI l1), some (vI l2)] [] 312 m 0 0 := by
  induction f with
  | zero => intro l0 l1 l2 h; exact none_ne (α := Int) h
  | succ f ih => intro l0 l1 l2 h; exact X5_knows_L30_bok C hlv (fun l0 l1 l2 h => ih h) h
set_option maxRecDepth 100000 in
set_option maxHeartbeats 4000000 in
theorem X5_knows_ct {N : Nat} {l0 : Nat} {l1 : Int} {m : Mem} {out : Int} (h : X5_knows N l0 l1 m = some out) : shK l0 = 5 + 10 ∧ CT yX5_knows cX5_knows 3 (some .boolean) 1 0 0 [vR l0, vI l1] 312 m (some (vI out)) 312 m := by
  unfold X5_knows at h
  obtain ⟨hK, h⟩ := ite_some h
  have hlv : 0 < 1 := by decide
  refine ⟨hK, CT.of (by decide +kernel) rfl (Nat.le_of_ble_eq_true rfl) (ls := [some (vR l0), some (vI l1), none]) rfl fun g w C _ => ?_⟩
  refine j_iconst C dX5_knows_0 rfl ?_
  refine j_istore_n (ls' := [some (vR _), some (vI _), some (vI _)]) C dX5_knows_1 (by decide) rfl ?_
  refine X5_knows_L2_ok C hlv (fun z6 z7 h => ?_) N h
  refine j_iconst C dX5_knows_28 rfl ?_
  refine j_istore_n (ls' := [some (vR _), some (vI _), some (vI _)]) C dX5_knows_29 (by decide) rfl ?_
  exact X5_knows_L30_ok C hlv N h
theorem dX6_name_0 : decode cX6_name 0 = .ok (.aload_n 0, 1) := by decide +kernel
theorem dX6_name_1 : decode cX6_name 1 = .ok (.getfield 22, 3) := by decide +kernel
theorem dX6_name_4 : decode cX6_name 4 = .ok (.iconst 3, 1) := by decide +kernel
theorem dX6_name_5 : decode cX6_name 5 = .ok (.if_icmp .eq 8, 3) := by decide +kernel
theorem dX6_name_8 : decode cX6_name 8 = .ok (.aload_n 0, 1) := by decide +kernel
theorem dX6_name_9 : decode cX6_name 9 = .ok (.invokevirtual 139, 3) := by decide +kernel
theorem dX6_name_12 : decode cX6_name 12 = .ok (.ireturn, 1) := by decide +kernel
theorem dX6_name_13 : decode cX6_name 13 = .ok (.aload_n 0, 1) := by decide +kernel
theorem dX6_name_14 : decode cX6_name 14 = .ok (.aload_n 0, 1) := by decide +kernel
theorem dX6_name_15 : decode cX6_name 15 = .ok (.getfield 28, 3) := by decide +kernel
theorem dX6_name_18 : decode cX6_name 18 = .ok (.putfield 37, 3) := by decide +kernel
theorem dX6_name_21 : decode cX6_name 21 = .ok (.aload_n 1, 1) := by decide +kernel
theorem dX6_name_22 : decode cX6_name 22 = .ok (.aload_n 0, 1) := by decide +kernel
theorem dX6_name_23 : decode cX6_name 23 = .ok (.getfield 37, 3) := by decide +kernel
theorem dX6_name_26 : decode cX6_name 26 = .ok (.invokevirtual 219, 3) := by decide +kernel
theorem dX6_name_29 : decode cX6_name 29 = .ok (.ifCond .eq 13, 3) := by decide +kernel
theorem dX6_name_32 : decode cX6_name 32 = .ok (.aload_n 0, 1) := by decide +kernel
theorem dX6_name_33 : decode cX6_name 33 = .ok (.iconst 2, 1) := by decide +kernel
theorem dX6_name_34 : decode cX6_name 34 = .ok (.aload_n 0, 1) := by decide +kernel
theorem dX6_name_35 : decode cX6_name 35 = .ok (.getfield 25, 3) := by decide +kernel
theorem dX6_name_38 : decode cX6_name 38 = .ok (.invokevirtual 94, 3) := by decide +kernel
theorem dX6_name_41 : decode cX6_name 41 = .ok (.ireturn, 1) := by decide +kernel
theorem dX6_name_42 : decode cX6_name 42 = .ok (.aload_n 0, 1) := by decide +kernel
theorem dX6_name_43 : decode cX6_name 43 = .ok (.aload_n 0, 1) := by decide +kernel
theorem dX6_name_44 : decode cX6_name 44 = .ok (.getfield 18, 3) := by decide +kernel
theorem dX6_name_47 : decode cX6_name 47 = .ok (.iconst 1, 1) := by decide +kernel
theorem dX6_name_48 : decode cX6_name 48 = .ok (.iadd, 1) := by decide +kernel
theorem dX6_name_49 : decode cX6_name 49 = .ok (.invokevirtual 61, 3) := by decide +kernel
theorem dX6_name_52 : decode cX6_name 52 = .ok (.ireturn, 1) := by decide +kernel
set_option maxRecDepth 100000 in
set_option maxHeartbeats 4000000 in
theorem X6_name_ct {N : Nat} {l0 : Nat} {l1 : Nat} {m : Mem} {out : (Int × Mem)} (h : X6_name N l0 l1 m = some out) : shK l0 = 6 + 10 ∧ CT yX6_name cX6_name 2 (some .boolean) 2 0 0 [vR l0, vR l1] 312 m (some (vI out.1)) 312 out.2 := by
  unfold X6_name at h
  obtain ⟨hK, h⟩ := ite_some h
  have hlv : 1 < 2 := by decide
  refine ⟨hK, CT.of (by decide +kernel) rfl (Nat.le_of_ble_eq_true rfl) (ls := [some (vR l0), some (vR l1)]) rfl fun g w C _ => ?_⟩
  refine j_aload_n C dX6_name_0 rfl ?_
  refine j_getI C dX6_name_1 CF6 (by decide) fl_X6_22 rfl rfl h (fun t1 h => ?_)
  refine j_iconst C dX6_name_4 rfl ?_
  refine j_icmp_eq C 13 dX6_name_5 rfl h (fun c15 h => ?_) (fun c15 h => ?_)
  · refine j_aload_n C dX6_name_13 rfl ?_
    refine j_aload_n C dX6_name_14 rfl ?_
    refine j_getI C dX6_name_15 CF6 (by decide) fl_X6_28 rfl rfl h (fun t2 h => ?_)
    refine j_putI C dX6_name_18 CF6 (by decide) fl_X6_37 rfl rfl rfl rfl h (fun m3 h => ?_)
    refine j_aload_n C dX6_name_21 rfl ?_
    refine j_aload_n C dX6_name_22 rfl ?_
    refine j_getI C dX6_name_23 CF6 (by decide) fl_X6_37 rfl rfl h (fun t4 h => ?_)
    obtain ⟨p5, ep5, h⟩ := bind_some h
    have qp5 := X5_knows_ct ep5
    refine j_cVI C dX6_name_26 vl_X6_219 CF5 rfl qp5.1 qp5.2 (by omega) rfl rfl (Nat.le_of_ble_eq_true rfl) ?_
    refine j_if_eq C 42 dX6_name_29 rfl h (fun c12 h => ?_) (fun c12 h => ?_)
    · refine j_aload_n C dX6_name_42 rfl ?_
      refine j_aload_n C dX6_name_43 rfl ?_
      refine j_getI C dX6_name_44 CF6 (by decide) fl_X6_18 rfl rfl h (fun t6 h => ?_)
      refine j_iconst C dX6_name_47 rfl ?_
      refine j_iadd C dX6_name_48 ?_
      obtain ⟨p7, ep7, h⟩ := bind_some h
      have qp7 := X6_goTo_ct ep7
      refine j_cVI C dX6_name_49 vl_X6_61 CF6 rfl qp7.1 qp7.2 (by omega) rfl rfl (Nat.le_of_ble_eq_true rfl) ?_
      obtain ⟨r8, er8, h⟩ := bind_some h
      have e := Option.some.inj h
      subst e
      exact j_rz C dX6_name_52 rfl (retZ_some er8) rfl
    · refine j_aload_n C dX6_name_32 rfl ?_
      refine j_iconst C dX6_name_33 rfl ?_
      refine j_aload_n C dX6_name_34 rfl ?_
      refine j_getI C dX6_name_35 CF6 (by decide) fl_X6_25 rfl rfl h (fun t9 h => ?_)
      obtain ⟨p10, ep10, h⟩ := bind_some h
      have qp10 := X6_refuse_ct ep10
      refine j_cVI C dX6_name_38 vl_X6_94 CF6 rfl qp10.1 qp10.2 (by omega) rfl rfl (Nat.le_of_ble_eq_true rfl) ?_
      obtain ⟨r11, er11, h⟩ := bind_some h
      have e := Option.some.inj h
      subst e
      exact j_rz C dX6_name_41 rfl (retZ_some er11) rfl
  · refine j_aload_n C dX6_name_8 rfl ?_
    obtain ⟨p13, ep13, h⟩ := bind_some h
    have qp13 := X6_unexpected_ct ep13
    refine j_cVI C dX6_name_9 vl_X6_139 CF6 rfl qp13.1 qp13.2 (by omega) rfl rfl (Nat.le_of_ble_eq_true rfl) ?_
    obtain ⟨r14, er14, h⟩ := bind_some h
    have e := Option.some.inj h
    subst e
    exact j_rz C dX6_name_12 rfl (retZ_some er14) rfl
theorem dX5_addCistern_0 : decode cX5_addCistern 0 = .ok (.aload_n 0, 1) := by decide +kernel
theorem dX5_addCistern_1 : decode cX5_addCistern 1 = .ok (.getfield 37, 3) := by decide +kernel
theorem dX5_addCistern_4 : decode cX5_addCistern 4 = .ok (.iconst 5, 1) := by decide +kernel
theorem dX5_addCistern_5 : decode cX5_addCistern 5 = .ok (.if_icmp .ge 33, 3) := by decide +kernel
theorem dX5_addCistern_8 : decode cX5_addCistern 8 = .ok (.aload_n 0, 1) := by decide +kernel
theorem dX5_addCistern_9 : decode cX5_addCistern 9 = .ok (.getfield 43, 3) := by decide +kernel
theorem dX5_addCistern_12 : decode cX5_addCistern 12 = .ok (.aload_n 0, 1) := by decide +kernel
theorem dX5_addCistern_13 : decode cX5_addCistern 13 = .ok (.getfield 37, 3) := by decide +kernel
theorem dX5_addCistern_16 : decode cX5_addCistern 16 = .ok (.iload_n 1, 1) := by decide +kernel
theorem dX5_addCistern_17 : decode cX5_addCistern 17 = .ok (.iastore, 1) := by decide +kernel
theorem dX5_addCistern_18 : decode cX5_addCistern 18 = .ok (.aload_n 0, 1) := by decide +kernel
theorem dX5_addCistern_19 : decode cX5_addCistern 19 = .ok (.getfield 40, 3) := by decide +kernel
theorem dX5_addCistern_22 : decode cX5_addCistern 22 = .ok (.aload_n 0, 1) := by decide +kernel
theorem dX5_addCistern_23 : decode cX5_addCistern 23 = .ok (.getfield 37, 3) := by decide +kernel
theorem dX5_addCistern_26 : decode cX5_addCistern 26 = .ok (.iload_n 2, 1) := by decide +kernel
theorem dX5_addCistern_27 : decode cX5_addCistern 27 = .ok (.iastore, 1) := by decide +kernel
theorem dX5_addCistern_28 : decode cX5_addCistern 28 = .ok (.aload_n 0, 1) := by decide +kernel
theorem dX5_addCistern_29 : decode cX5_addCistern 29 = .ok (.dup, 1) := by decide +kernel
theorem dX5_addCistern_30 : decode cX5_addCistern 30 = .ok (.getfield 37, 3) := by decide +kernel
theorem dX5_addCistern_33 : decode cX5_addCistern 33 = .ok (.iconst 1, 1) := by decide +kernel
theorem dX5_addCistern_34 : decode cX5_addCistern 34 = .ok (.iadd, 1) := by decide +kernel
theorem dX5_addCistern_35 : decode cX5_addCistern 35 = .ok (.putfield 37, 3) := by decide +kernel
theorem dX5_addCistern_38 : decode cX5_addCistern 38 = .ok (.return_, 1) := by decide +kernel
set_option maxRecDepth 100000 in
set_option maxHeartbeats 4000000 in
theorem X5_addCistern_ct {l0 : Nat} {l1 : Int} {l2 : Int} {m : Mem} {out : Mem} (h : X5_addCistern l0 l1 l2 m = some out) : shK l0 = 5 + 10 ∧ CT yX5_addCistern cX5_addCistern 3 none 1 0 0 [vR l0, vI l1, vI l2] 312 m none 312 out := by
  unfold X5_addCistern at h
  obtain ⟨hK, h⟩ := ite_some h
  have hlv : 0 < 1 := by decide
  refine ⟨hK, CT.of (by decide +kernel) rfl (Nat.le_of_ble_eq_true rfl) (ls := [some (vR l0), some (vI l1), some (vI l2)]) rfl fun g w C _ => ?_⟩
  refine j_aload_n C dX5_addCistern_0 rfl ?_
  refine j_getI C dX5_addCistern_1 CF5 (by decide) fl_X5_37 rfl rfl h (fun t1 h => ?_)
  refine j_iconst C dX5_addCistern_4 rfl ?_
  refine j_icmp_ge C 38 dX5_addCistern_5 rfl h (fun c10 h => ?_) (fun c10 h => ?_)
  · have e := Option.some.inj h
    subst e
    exact j_rv C dX5_addCistern_38 rfl rfl
  · refine j_aload_n C dX5_addCistern_8 rfl ?_
    refine j_getR C dX5_addCistern_9 CF5 (by decide) fl_X5_43 rfl rfl h (fun t2 h => ?_)
    refine j_aload_n C dX5_addCistern_12 rfl ?_
    refine j_getI C dX5_addCistern_13 CF5 (by decide) fl_X5_37 rfl rfl h (fun t3 h => ?_)
    refine j_iload_n C dX5_addCistern_16 rfl ?_
    refine j_iast C dX5_addCistern_17 rfl h (fun m4 h => ?_)
    refine j_aload_n C dX5_addCistern_18 rfl ?_
    refine j_getR C dX5_addCistern_19 CF5 (by decide) fl_X5_40 rfl rfl h (fun t5 h => ?_)
    refine j_aload_n C dX5_addCistern_22 rfl ?_
    refine j_getI C dX5_addCistern_23 CF5 (by decide) fl_X5_37 rfl rfl h (fun t6 h => ?_)
    refine j_iload_n C dX5_addCistern_26 rfl ?_
    refine j_iast C dX5_addCistern_27 rfl h (fun m7 h => ?_)
    refine j_aload_n C dX5_addCistern_28 rfl ?_
    refine j_dup C dX5_addCistern_29 rfl ?_
    refine j_getI C dX5_addCistern_30 CF5 (by decide) fl_X5_37 rfl rfl h (fun t8 h => ?_)
    refine j_iconst C dX5_addCistern_33 rfl ?_
    refine j_iadd C dX5_addCistern_34 ?_
    refine j_putI C dX5_addCistern_35 CF5 (by decide) fl_X5_37 rfl rfl rfl rfl h (fun m9 h => ?_)
    have e := Option.some.inj h
    subst e
    exact j_rv C dX5_addCistern_38 rfl rfl
theorem dX6_cisternOf_0 : decode cX6_cisternOf 0 = .ok (.aload_n 0, 1) := by decide +kernel
theorem dX6_cisternOf_1 : decode cX6_cisternOf 1 = .ok (.aload_n 1, 1) := by decide +kernel
theorem dX6_cisternOf_2 : decode cX6_cisternOf 2 = .ok (.invokevirtual 109, 3) := by decide +kernel
theorem dX6_cisternOf_5 : decode cX6_cisternOf 5 = .ok (.ifCond .eq 12, 3) := by decide +kernel
theorem dX6_cisternOf_8 : decode cX6_cisternOf 8 = .ok (.aload_n 0, 1) := by decide +kernel
theorem dX6_cisternOf_9 : decode cX6_cisternOf 9 = .ok (.aload_n 1, 1) := by decide +kernel
theorem dX6_cisternOf_10 : decode cX6_cisternOf 10 = .ok (.iconst 1, 1) := by decide +kernel
theorem dX6_cisternOf_11 : decode cX6_cisternOf 11 = .ok (.invokevirtual 164, 3) := by decide +kernel
theorem dX6_cisternOf_14 : decode cX6_cisternOf 14 = .ok (.ifCond .ne 5, 3) := by decide +kernel
theorem dX6_cisternOf_17 : decode cX6_cisternOf 17 = .ok (.iconst 0, 1) := by decide +kernel
theorem dX6_cisternOf_18 : decode cX6_cisternOf 18 = .ok (.ireturn, 1) := by decide +kernel
theorem dX6_cisternOf_19 : decode cX6_cisternOf 19 = .ok (.aload_n 1, 1) := by decide +kernel
theorem dX6_cisternOf_20 : decode cX6_cisternOf 20 = .ok (.aload_n 0, 1) := by decide +kernel
theorem dX6_cisternOf_21 : decode cX6_cisternOf 21 = .ok (.getfield 37, 3) := by decide +kernel
theorem dX6_cisternOf_24 : decode cX6_cisternOf 24 = .ok (.aload_n 0, 1) := by decide +kernel
theorem dX6_cisternOf_25 : decode cX6_cisternOf 25 = .ok (.getfield 40, 3) := by decide +kernel
theorem dX6_cisternOf_28 : decode cX6_cisternOf 28 = .ok (.invokevirtual 175, 3) := by decide +kernel
theorem dX6_cisternOf_31 : decode cX6_cisternOf 31 = .ok (.iconst 1, 1) := by decide +kernel
theorem dX6_cisternOf_32 : decode cX6_cisternOf 32 = .ok (.ireturn, 1) := by decide +kernel
set_option maxRecDepth 100000 in
set_option maxHeartbeats 4000000 in
theorem X6_cisternOf_ct {N : Nat} {l0 : Nat} {l1 : Nat} {m : Mem} {out : (Int × Mem)} (h : X6_cisternOf N l0 l1 m = some out) : shK l0 = 6 + 10 ∧ CT yX6_cisternOf cX6_cisternOf 2 (some .boolean) 4 0 0 [vR l0, vR l1] 312 m (some (vI out.1)) 312 out.2 := by
  unfold X6_cisternOf at h
  obtain ⟨hK, h⟩ := ite_some h
  have hlv : 3 < 4 := by decide
  refine ⟨hK, CT.of (by decide +kernel) rfl (Nat.le_of_ble_eq_true rfl) (ls := [some (vR l0), some (vR l1)]) rfl fun g w C _ => ?_⟩
  refine j_aload_n C dX6_cisternOf_0 rfl ?_
  refine j_aload_n C dX6_cisternOf_1 rfl ?_
  obtain ⟨p1, ep1, h⟩ := bind_some h
  have qp1 := X6_name_ct ep1
  refine j_cVI C dX6_cisternOf_2 vl_X6_109 CF6 rfl qp1.1 qp1.2 (by omega) rfl rfl (Nat.le_of_ble_eq_true rfl) ?_
  refine j_if_eq C 17 dX6_cisternOf_5 rfl h (fun c10 h => ?_) (fun c10 h => ?_)
  · refine j_iconst C dX6_cisternOf_17 rfl ?_
    obtain ⟨r2, er2, h⟩ := bind_some h
    have e := Option.some.inj h
    subst e
    exact j_rz C dX6_cisternOf_18 rfl (retZ_some er2) rfl
  · refine j_aload_n C dX6_cisternOf_8 rfl ?_
    refine j_aload_n C dX6_cisternOf_9 rfl ?_
    refine j_iconst C dX6_cisternOf_10 rfl ?_
    obtain ⟨p3, ep3, h⟩ := bind_some h
    have qp3 := X6_spot_ct ep3
    refine j_cVI C dX6_cisternOf_11 vl_X6_164 CF6 rfl qp3.1 qp3.2 (by omega) rfl rfl (Nat.le_of_ble_eq_true rfl) ?_
    refine j_if_ne C 19 dX6_cisternOf_14 rfl h (fun c9 h => ?_) (fun c9 h => ?_)
    · refine j_aload_n C dX6_cisternOf_19 rfl ?_
      refine j_aload_n C dX6_cisternOf_20 rfl ?_
      refine j_getI C dX6_cisternOf_21 CF6 (by decide) fl_X6_37 rfl rfl h (fun t4 h => ?_)
      refine j_aload_n C dX6_cisternOf_24 rfl ?_
      refine j_getI C dX6_cisternOf_25 CF6 (by decide) fl_X6_40 rfl rfl h (fun t5 h => ?_)
      obtain ⟨p6, ep6, h⟩ := bind_some h
      have qp6 := X5_addCistern_ct ep6
      refine j_cVV C dX6_cisternOf_28 vl_X6_175 CF5 rfl qp6.1 qp6.2 (by omega) rfl rfl (Nat.le_of_ble_eq_true rfl) ?_
      refine j_iconst C dX6_cisternOf_31 rfl ?_
      obtain ⟨r7, er7, h⟩ := bind_some h
      have e := Option.some.inj h
      subst e
      exact j_rz C dX6_cisternOf_32 rfl (retZ_some er7) rfl
    · refine j_iconst C dX6_cisternOf_17 rfl ?_
      obtain ⟨r8, er8, h⟩ := bind_some h
      have e := Option.some.inj h
      subst e
      exact j_rz C dX6_cisternOf_18 rfl (retZ_some er8) rfl
theorem dX5_addThing_0 : decode cX5_addThing 0 = .ok (.aload_n 0, 1) := by decide +kernel
theorem dX5_addThing_1 : decode cX5_addThing 1 = .ok (.getfield 46, 3) := by decide +kernel
theorem dX5_addThing_4 : decode cX5_addThing 4 = .ok (.bipush 10, 2) := by decide +kernel
theorem dX5_addThing_6 : decode cX5_addThing 6 = .ok (.if_icmp .ge 46, 3) := by decide +kernel
theorem dX5_addThing_9 : decode cX5_addThing 9 = .ok (.aload_n 0, 1) := by decide +kernel
theorem dX5_addThing_10 : decode cX5_addThing 10 = .ok (.getfield 52, 3) := by decide +kernel
theorem dX5_addThing_13 : decode cX5_addThing 13 = .ok (.aload_n 0, 1) := by decide +kernel
theorem dX5_addThing_14 : decode cX5_addThing 14 = .ok (.getfield 46, 3) := by decide +kernel
theorem dX5_addThing_17 : decode cX5_addThing 17 = .ok (.iload_n 1, 1) := by decide +kernel
theorem dX5_addThing_18 : decode cX5_addThing 18 = .ok (.iastore, 1) := by decide +kernel
theorem dX5_addThing_19 : decode cX5_addThing 19 = .ok (.aload_n 0, 1) := by decide +kernel
theorem dX5_addThing_20 : decode cX5_addThing 20 = .ok (.getfield 49, 3) := by decide +kernel
theorem dX5_addThing_23 : decode cX5_addThing 23 = .ok (.aload_n 0, 1) := by decide +kernel
theorem dX5_addThing_24 : decode cX5_addThing 24 = .ok (.getfield 46, 3) := by decide +kernel
theorem dX5_addThing_27 : decode cX5_addThing 27 = .ok (.iload_n 2, 1) := by decide +kernel
theorem dX5_addThing_28 : decode cX5_addThing 28 = .ok (.iastore, 1) := by decide +kernel
theorem dX5_addThing_29 : decode cX5_addThing 29 = .ok (.aload_n 0, 1) := by decide +kernel
theorem dX5_addThing_30 : decode cX5_addThing 30 = .ok (.getfield 33, 3) := by decide +kernel
theorem dX5_addThing_33 : decode cX5_addThing 33 = .ok (.getfield 110, 3) := by decide +kernel
theorem dX5_addThing_36 : decode cX5_addThing 36 = .ok (.aload_n 0, 1) := by decide +kernel
theorem dX5_addThing_37 : decode cX5_addThing 37 = .ok (.getfield 46, 3) := by decide +kernel
theorem dX5_addThing_40 : decode cX5_addThing 40 = .ok (.iload_n 3, 1) := by decide +kernel
theorem dX5_addThing_41 : decode cX5_addThing 41 = .ok (.iastore, 1) := by decide +kernel
theorem dX5_addThing_42 : decode cX5_addThing 42 = .ok (.aload_n 0, 1) := by decide +kernel
theorem dX5_addThing_43 : decode cX5_addThing 43 = .ok (.dup, 1) := by decide +kernel
theorem dX5_addThing_44 : decode cX5_addThing 44 = .ok (.getfield 46, 3) := by decide +kernel
theorem dX5_addThing_47 : decode cX5_addThing 47 = .ok (.iconst 1, 1) := by decide +kernel
theorem dX5_addThing_48 : decode cX5_addThing 48 = .ok (.iadd, 1) := by decide +kernel
theorem dX5_addThing_49 : decode cX5_addThing 49 = .ok (.putfield 46, 3) := by decide +kernel
theorem dX5_addThing_52 : decode cX5_addThing 52 = .ok (.return_, 1) := by decide +kernel
set_option maxRecDepth 100000 in
set_option maxHeartbeats 4000000 in
theorem X5_addThing_ct {l0 : Nat} {l1 : Int} {l2 : Int} {l3 : Int} {m : Mem} {out : Mem} (h : X5_addThing l0 l1 l2 l3 m = some out) : shK l0 = 5 + 10 ∧ CT yX5_addThing cX5_addThing 4 none 1 0 0 [vR l0, vI l1, vI l2, vI l3] 312 m none 312 out := by
  unfold X5_addThing at h
  obtain ⟨hK, h⟩ := ite_some h
  have hlv : 0 < 1 := by decide
  refine ⟨hK, CT.of (by decide +kernel) rfl (Nat.le_of_ble_eq_true rfl) (ls := [some (vR l0), some (vI l1), some (vI l2), some (vI l3)]) rfl fun g w C _ => ?_⟩
  refine j_aload_n C dX5_addThing_0 rfl ?_
  refine j_getI C dX5_addThing_1 CF5 (by decide) fl_X5_46 rfl rfl h (fun t1 h => ?_)
  refine j_bipush C dX5_addThing_4 rfl ?_
  refine j_icmp_ge C 52 dX5_addThing_6 rfl h (fun c14 h => ?_) (fun c14 h => ?_)
  · have e := Option.some.inj h
    subst e
    exact j_rv C dX5_addThing_52 rfl rfl
  · refine j_aload_n C dX5_addThing_9 rfl ?_
    refine j_getR C dX5_addThing_10 CF5 (by decide) fl_X5_52 rfl rfl h (fun t2 h => ?_)
    refine j_aload_n C dX5_addThing_13 rfl ?_
    refine j_getI C dX5_addThing_14 CF5 (by decide) fl_X5_46 rfl rfl h (fun t3 h => ?_)
    refine j_iload_n C dX5_addThing_17 rfl ?_
    refine j_iast C dX5_addThing_18 rfl h (fun m4 h => ?_)
    refine j_aload_n C dX5_addThing_19 rfl ?_
    refine j_getR C dX5_addThing_20 CF5 (by decide) fl_X5_49 rfl rfl h (fun t5 h => ?_)
    refine j_aload_n C dX5_addThing_23 rfl ?_
    refine j_getI C dX5_addThing_24 CF5 (by decide) fl_X5_46 rfl rfl h (fun t6 h => ?_)
    refine j_iload_n C dX5_addThing_27 rfl ?_
    refine j_iast C dX5_addThing_28 rfl h (fun m7 h => ?_)
    refine j_aload_n C dX5_addThing_29 rfl ?_
    refine j_getR C dX5_addThing_30 CF5 (by decide) fl_X5_33 rfl rfl h (fun t8 h => ?_)
    refine j_getR C dX5_addThing_33 CF1 (by decide) fl_X5_110 rfl rfl h (fun t9 h => ?_)
    refine j_aload_n C dX5_addThing_36 rfl ?_
    refine j_getI C dX5_addThing_37 CF5 (by decide) fl_X5_46 rfl rfl h (fun t10 h => ?_)
    refine j_iload_n C dX5_addThing_40 rfl ?_
    refine j_iast C dX5_addThing_41 rfl h (fun m11 h => ?_)
    refine j_aload_n C dX5_addThing_42 rfl ?_
    refine j_dup C dX5_addThing_43 rfl ?_
    refine j_getI C dX5_addThing_44 CF5 (by decide) fl_X5_46 rfl rfl h (fun t12 h => ?_)
    refine j_iconst C dX5_addThing_47 rfl ?_
    refine j_iadd C dX5_addThing_48 ?_
    refine j_putI C dX5_addThing_49 CF5 (by decide) fl_X5_46 rfl rfl rfl rfl h (fun m13 h => ?_)
    have e := Option.some.inj h
    subst e
    exact j_rv C dX5_addThing_52 rfl rfl
theorem dX5_addCloth_0 : decode cX5_addCloth 0 = .ok (.aload_n 0, 1) := by decide +kernel
theorem dX5_addCloth_1 : decode cX5_addCloth 1 = .ok (.getfield 55, 3) := by decide +kernel
theorem dX5_addCloth_4 : decode cX5_addCloth 4 = .ok (.bipush 10, 2) := by decide +kernel
theorem dX5_addCloth_6 : decode cX5_addCloth 6 = .ok (.if_icmp .ge 45, 3) := by decide +kernel
theorem dX5_addCloth_9 : decode cX5_addCloth 9 = .ok (.aload_n 0, 1) := by decide +kernel
theorem dX5_addCloth_10 : decode cX5_addCloth 10 = .ok (.getfield 46, 3) := by decide +kernel
theorem dX5_addCloth_13 : decode cX5_addCloth 13 = .ok (.ifCond .le 38, 3) := by decide +kernel
theorem dX5_addCloth_16 : decode cX5_addCloth 16 = .ok (.aload_n 0, 1) := by decide +kernel
theorem dX5_addCloth_17 : decode cX5_addCloth 17 = .ok (.getfield 58, 3) := by decide +kernel
theorem dX5_addCloth_20 : decode cX5_addCloth 20 = .ok (.aload_n 0, 1) := by decide +kernel
theorem dX5_addCloth_21 : decode cX5_addCloth 21 = .ok (.getfield 55, 3) := by decide +kernel
theorem dX5_addCloth_24 : decode cX5_addCloth 24 = .ok (.aload_n 0, 1) := by decide +kernel
theorem dX5_addCloth_25 : decode cX5_addCloth 25 = .ok (.getfield 46, 3) := by decide +kernel
theorem dX5_addCloth_28 : decode cX5_addCloth 28 = .ok (.iconst 1, 1) := by decide +kernel
theorem dX5_addCloth_29 : decode cX5_addCloth 29 = .ok (.isub, 1) := by decide +kernel
theorem dX5_addCloth_30 : decode cX5_addCloth 30 = .ok (.iastore, 1) := by decide +kernel
theorem dX5_addCloth_31 : decode cX5_addCloth 31 = .ok (.aload_n 0, 1) := by decide +kernel
theorem dX5_addCloth_32 : decode cX5_addCloth 32 = .ok (.getfield 61, 3) := by decide +kernel
theorem dX5_addCloth_35 : decode cX5_addCloth 35 = .ok (.aload_n 0, 1) := by decide +kernel
theorem dX5_addCloth_36 : decode cX5_addCloth 36 = .ok (.getfield 55, 3) := by decide +kernel
theorem dX5_addCloth_39 : decode cX5_addCloth 39 = .ok (.iload_n 1, 1) := by decide +kernel
theorem dX5_addCloth_40 : decode cX5_addCloth 40 = .ok (.iastore, 1) := by decide +kernel
theorem dX5_addCloth_41 : decode cX5_addCloth 41 = .ok (.aload_n 0, 1) := by decide +kernel
theorem dX5_addCloth_42 : decode cX5_addCloth 42 = .ok (.dup, 1) := by decide +kernel
theorem dX5_addCloth_43 : decode cX5_addCloth 43 = .ok (.getfield 55, 3) := by decide +kernel
theorem dX5_addCloth_46 : decode cX5_addCloth 46 = .ok (.iconst 1, 1) := by decide +kernel
theorem dX5_addCloth_47 : decode cX5_addCloth 47 = .ok (.iadd, 1) := by decide +kernel
theorem dX5_addCloth_48 : decode cX5_addCloth 48 = .ok (.putfield 55, 3) := by decide +kernel
theorem dX5_addCloth_51 : decode cX5_addCloth 51 = .ok (.return_, 1) := by decide +kernel
set_option maxRecDepth 100000 in
set_option maxHeartbeats 4000000 in
theorem X5_addCloth_ct {l0 : Nat} {l1 : Int} {m : Mem} {out : Mem} (h : X5_addCloth l0 l1 m = some out) : shK l0 = 5 + 10 ∧ CT yX5_addCloth cX5_addCloth 2 none 1 0 0 [vR l0, vI l1] 312 m none 312 out := by
  unfold X5_addCloth at h
  obtain ⟨hK, h⟩ := ite_some h
  have hlv : 0 < 1 := by decide
  refine ⟨hK, CT.of (by decide +kernel) rfl (Nat.le_of_ble_eq_true rfl) (ls := [some (vR l0), some (vI l1)]) rfl fun g w C _ => ?_⟩
  refine j_aload_n C dX5_addCloth_0 rfl ?_
  refine j_getI C dX5_addCloth_1 CF5 (by decide) fl_X5_55 rfl rfl h (fun t1 h => ?_)
  refine j_bipush C dX5_addCloth_4 rfl ?_
  refine j_icmp_ge C 51 dX5_addCloth_6 rfl h (fun c13 h => ?_) (fun c13 h => ?_)
  · have e := Option.some.inj h
    subst e
    exact j_rv C dX5_addCloth_51 rfl rfl
  · refine j_aload_n C dX5_addCloth_9 rfl ?_
    refine j_getI C dX5_addCloth_10 CF5 (by decide) fl_X5_46 rfl rfl h (fun t2 h => ?_)
    refine j_if_le C 51 dX5_addCloth_13 rfl h (fun c12 h => ?_) (fun c12 h => ?_)
    · have e := Option.some.inj h
      subst e
      exact j_rv C dX5_addCloth_51 rfl rfl
    · refine j_aload_n C dX5_addCloth_16 rfl ?_
      refine j_getR C dX5_addCloth_17 CF5 (by decide) fl_X5_58 rfl rfl h (fun t3 h => ?_)
      refine j_aload_n C dX5_addCloth_20 rfl ?_
      refine j_getI C dX5_addCloth_21 CF5 (by decide) fl_X5_55 rfl rfl h (fun t4 h => ?_)
      refine j_aload_n C dX5_addCloth_24 rfl ?_
      refine j_getI C dX5_addCloth_25 CF5 (by decide) fl_X5_46 rfl rfl h (fun t5 h => ?_)
      refine j_iconst C dX5_addCloth_28 rfl ?_
      refine j_isub C dX5_addCloth_29 ?_
      refine j_iast C dX5_addCloth_30 rfl h (fun m6 h => ?_)
      refine j_aload_n C dX5_addCloth_31 rfl ?_
      refine j_getR C dX5_addCloth_32 CF5 (by decide) fl_X5_61 rfl rfl h (fun t7 h => ?_)
      refine j_aload_n C dX5_addCloth_35 rfl ?_
      refine j_getI C dX5_addCloth_36 CF5 (by decide) fl_X5_55 rfl rfl h (fun t8 h => ?_)
      refine j_iload_n C dX5_addCloth_39 rfl ?_
      refine j_iast C dX5_addCloth_40 rfl h (fun m9 h => ?_)
      refine j_aload_n C dX5_addCloth_41 rfl ?_
      refine j_dup C dX5_addCloth_42 rfl ?_
      refine j_getI C dX5_addCloth_43 CF5 (by decide) fl_X5_55 rfl rfl h (fun t10 h => ?_)
      refine j_iconst C dX5_addCloth_46 rfl ?_
      refine j_iadd C dX5_addCloth_47 ?_
      refine j_putI C dX5_addCloth_48 CF5 (by decide) fl_X5_55 rfl rfl rfl rfl h (fun m11 h => ?_)
      have e := Option.some.inj h
      subst e
      exact j_rv C dX5_addCloth_51 rfl rfl
theorem dX6_thingOf_0 : decode cX6_thingOf 0 = .ok (.aload_n 0, 1) := by decide +kernel
theorem dX6_thingOf_1 : decode cX6_thingOf 1 = .ok (.bipush 7, 2) := by decide +kernel
theorem dX6_thingOf_3 : decode cX6_thingOf 3 = .ok (.invokevirtual 76, 3) := by decide +kernel
theorem dX6_thingOf_6 : decode cX6_thingOf 6 = .ok (.ifCond .eq 13, 3) := by decide +kernel
theorem dX6_thingOf_9 : decode cX6_thingOf 9 = .ok (.aload_n 0, 1) := by decide +kernel
theorem dX6_thingOf_10 : decode cX6_thingOf 10 = .ok (.iconst 1, 1) := by decide +kernel
theorem dX6_thingOf_11 : decode cX6_thingOf 11 = .ok (.bipush 9, 2) := by decide +kernel
theorem dX6_thingOf_13 : decode cX6_thingOf 13 = .ok (.invokevirtual 79, 3) := by decide +kernel
theorem dX6_thingOf_16 : decode cX6_thingOf 16 = .ok (.ifCond .ne 5, 3) := by decide +kernel
theorem dX6_thingOf_19 : decode cX6_thingOf 19 = .ok (.iconst 0, 1) := by decide +kernel
theorem dX6_thingOf_20 : decode cX6_thingOf 20 = .ok (.ireturn, 1) := by decide +kernel
theorem dX6_thingOf_21 : decode cX6_thingOf 21 = .ok (.aload_n 0, 1) := by decide +kernel
theorem dX6_thingOf_22 : decode cX6_thingOf 22 = .ok (.getfield 31, 3) := by decide +kernel
theorem dX6_thingOf_25 : decode cX6_thingOf 25 = .ok (.istore_n 3, 1) := by decide +kernel
theorem dX6_thingOf_26 : decode cX6_thingOf 26 = .ok (.aload_n 0, 1) := by decide +kernel
theorem dX6_thingOf_27 : decode cX6_thingOf 27 = .ok (.aload_n 1, 1) := by decide +kernel
theorem dX6_thingOf_28 : decode cX6_thingOf 28 = .ok (.iconst 1, 1) := by decide +kernel
theorem dX6_thingOf_29 : decode cX6_thingOf 29 = .ok (.invokevirtual 164, 3) := by decide +kernel
theorem dX6_thingOf_32 : decode cX6_thingOf 32 = .ok (.ifCond .ne 5, 3) := by decide +kernel
theorem dX6_thingOf_35 : decode cX6_thingOf 35 = .ok (.iconst 0, 1) := by decide +kernel
theorem dX6_thingOf_36 : decode cX6_thingOf 36 = .ok (.ireturn, 1) := by decide +kernel
theorem dX6_thingOf_37 : decode cX6_thingOf 37 = .ok (.aload_n 1, 1) := by decide +kernel
theorem dX6_thingOf_38 : decode cX6_thingOf 38 = .ok (.iload_n 2, 1) := by decide +kernel
theorem dX6_thingOf_39 : decode cX6_thingOf 39 = .ok (.iload_n 3, 1) := by decide +kernel
theorem dX6_thingOf_40 : decode cX6_thingOf 40 = .ok (.aload_n 0, 1) := by decide +kernel
theorem dX6_thingOf_41 : decode cX6_thingOf 41 = .ok (.getfield 40, 3) := by decide +kernel
theorem dX6_thingOf_44 : decode cX6_thingOf 44 = .ok (.invokevirtual 178, 3) := by decide +kernel
theorem dX6_thingOf_47 : decode cX6_thingOf 47 = .ok (.iload_n 2, 1) := by decide +kernel
theorem dX6_thingOf_48 : decode cX6_thingOf 48 = .ok (.ifCond .ne 11, 3) := by decide +kernel
theorem dX6_thingOf_51 : decode cX6_thingOf 51 = .ok (.aload_n 1, 1) := by decide +kernel
theorem dX6_thingOf_52 : decode cX6_thingOf 52 = .ok (.aload_n 0, 1) := by decide +kernel
theorem dX6_thingOf_53 : decode cX6_thingOf 53 = .ok (.getfield 37, 3) := by decide +kernel
theorem dX6_thingOf_56 : decode cX6_thingOf 56 = .ok (.invokevirtual 182, 3) := by decide +kernel
theorem dX6_thingOf_59 : decode cX6_thingOf 59 = .ok (.iconst 1, 1) := by decide +kernel
theorem dX6_thingOf_60 : decode cX6_thingOf 60 = .ok (.ireturn, 1) := by decide +kernel
set_option maxRecDepth 100000 in
set_option maxHeartbeats 4000000 in
theorem X6_thingOf_ct {N : Nat} {l0 : Nat} {l1 : Nat} {l2 : Int} {m : Mem} {out : (Int × Mem)} (h : X6_thingOf N l0 l1 l2 m = some out) : shK l0 = 6 + 10 ∧ CT yX6_thingOf cX6_thingOf 4 (some .boolean) 4 0 0 [vR l0, vR l1, vI l2] 312 m (some (vI out.1)) 312 out.2 := by
  unfold X6_thingOf at h
  obtain ⟨hK, h⟩ := ite_some h
  have hlv : 3 < 4 := by decide
  refine ⟨hK, CT.of (by decide +kernel) rfl (Nat.le_of_ble_eq_true rfl) (ls := [some (vR l0), some (vR l1), some (vI l2), none]) rfl fun g w C _ => ?_⟩
  refine j_aload_n C dX6_thingOf_0 rfl ?_
  refine j_bipush C dX6_thingOf_1 rfl ?_
  obtain ⟨p1, ep1, h⟩ := bind_some h
  have qp1 := X6_word_ct ep1
  refine j_cVI C dX6_thingOf_3 vl_X6_76 CF6 rfl qp1.1 qp1.2 (by omega) rfl rfl (Nat.le_of_ble_eq_true rfl) ?_
  refine j_if_eq C 19 dX6_thingOf_6 rfl h (fun c17 h => ?_) (fun c17 h => ?_)
  · refine j_iconst C dX6_thingOf_19 rfl ?_
    obtain ⟨r2, er2, h⟩ := bind_some h
    have e := Option.some.inj h
    subst e
    exact j_rz C dX6_thingOf_20 rfl (retZ_some er2) rfl
  · refine j_aload_n C dX6_thingOf_9 rfl ?_
    refine j_iconst C dX6_thingOf_10 rfl ?_
    refine j_bipush C dX6_thingOf_11 rfl ?_
    obtain ⟨p3, ep3, h⟩ := bind_some h
    have qp3 := X6_number_ct ep3
    refine j_cVI C dX6_thingOf_13 vl_X6_79 CF6 rfl qp3.1 qp3.2 (by omega) rfl rfl (Nat.le_of_ble_eq_true rfl) ?_
    refine j_if_ne C 21 dX6_thingOf_16 rfl h (fun c16 h => ?_) (fun c16 h => ?_)
    · refine j_aload_n C dX6_thingOf_21 rfl ?_
      refine j_getI C dX6_thingOf_22 CF6 (by decide) fl_X6_31 rfl rfl h (fun t4 h => ?_)
      refine j_istore_n (ls' := [some (vR _), some (vR _), some (vI _), some (vI _)]) C dX6_thingOf_25 (by decide) rfl ?_
      refine j_aload_n C dX6_thingOf_26 rfl ?_
      refine j_aload_n C dX6_thingOf_27 rfl ?_
      refine j_iconst C dX6_thingOf_28 rfl ?_
      obtain ⟨p5, ep5, h⟩ := bind_some h
      have qp5 := X6_spot_ct ep5
      refine j_cVI C dX6_thingOf_29 vl_X6_164 CF6 rfl qp5.1 qp5.2 (by omega) rfl rfl (Nat.le_of_ble_eq_true rfl) ?_
      refine j_if_ne C 37 dX6_thingOf_32 rfl h (fun c14 h => ?_) (fun c14 h => ?_)
      · refine j_aload_n C dX6_thingOf_37 rfl ?_
        refine j_iload_n C dX6_thingOf_38 rfl ?_
        refine j_iload_n C dX6_thingOf_39 rfl ?_
        refine j_aload_n C dX6_thingOf_40 rfl ?_
        refine j_getI C dX6_thingOf_41 CF6 (by decide) fl_X6_40 rfl rfl h (fun t6 h => ?_)
        obtain ⟨p7, ep7, h⟩ := bind_some h
        have qp7 := X5_addThing_ct ep7
        refine j_cVV C dX6_thingOf_44 vl_X6_178 CF5 rfl qp7.1 qp7.2 (by omega) rfl rfl (Nat.le_of_ble_eq_true rfl) ?_
        refine j_iload_n C dX6_thingOf_47 rfl ?_
        refine j_if_ne C 59 dX6_thingOf_48 rfl h (fun c12 h => ?_) (fun c12 h => ?_)
        · refine j_iconst C dX6_thingOf_59 rfl ?_
          obtain ⟨r8, er8, h⟩ := bind_some h
          have e := Option.some.inj h
          subst e
          exact j_rz C dX6_thingOf_60 rfl (retZ_some er8) rfl
        · refine j_aload_n C dX6_thingOf_51 rfl ?_
          refine j_aload_n C dX6_thingOf_52 rfl ?_
          refine j_getI C dX6_thingOf_53 CF6 (by decide) fl_X6_37 rfl rfl h (fun t9 h => ?_)
          obtain ⟨p10, ep10, h⟩ := bind_some h
          have qp10 := X5_addCloth_ct ep10
          refine j_cVV C dX6_thingOf_56 vl_X6_182 CF5 rfl qp10.1 qp10.2 (by omega) rfl rfl (Nat.le_of_ble_eq_true rfl) ?_
          refine j_iconst C dX6_thingOf_59 rfl ?_
          obtain ⟨r11, er11, h⟩ := bind_some h
          have e := Option.some.inj h
          subst e
          exact j_rz C dX6_thingOf_60 rfl (retZ_some er11) rfl
      · refine j_iconst C dX6_thingOf_35 rfl ?_
        obtain ⟨r13, er13, h⟩ := bind_some h
        have e := Option.some.inj h
        subst e
        exact j_rz C dX6_thingOf_36 rfl (retZ_some er13) rfl
    · refine j_iconst C dX6_thingOf_19 rfl ?_
      obtain ⟨r15, er15, h⟩ := bind_some h
      have e := Option.some.inj h
      subst e
      exact j_rz C dX6_thingOf_20 rfl (retZ_some er15) rfl
theorem dX6_letters_0 : decode cX6_letters 0 = .ok (.aload_n 0, 1) := by decide +kernel
theorem dX6_letters_1 : decode cX6_letters 1 = .ok (.getfield 22, 3) := by decide +kernel
theorem dX6_letters_4 : decode cX6_letters 4 = .ok (.iconst 4, 1) := by decide +kernel
theorem dX6_letters_5 : decode cX6_letters 5 = .ok (.if_icmp .eq 8, 3) := by decide +kernel
theorem dX6_letters_8 : decode cX6_letters 8 = .ok (.aload_n 0, 1) := by decide +kernel
theorem dX6_letters_9 : decode cX6_letters 9 = .ok (.invokevirtual 139, 3) := by decide +kernel
theorem dX6_letters_12 : decode cX6_letters 12 = .ok (.ireturn, 1) := by decide +kernel
theorem dX6_letters_13 : decode cX6_letters 13 = .ok (.iconst 1, 1) := by decide +kernel
theorem dX6_letters_14 : decode cX6_letters 14 = .ok (.istore_n 2, 1) := by decide +kernel
theorem dX6_letters_15 : decode cX6_letters 15 = .ok (.iload_n 2, 1) := by decide +kernel
theorem dX6_letters_16 : decode cX6_letters 16 = .ok (.bipush 12, 2) := by decide +kernel
theorem dX6_letters_18 : decode cX6_letters 18 = .ok (.if_icmp .gt 27, 3) := by decide +kernel
theorem dX6_letters_21 : decode cX6_letters 21 = .ok (.aload_n 1, 1) := by decide +kernel
theorem dX6_letters_22 : decode cX6_letters 22 = .ok (.getfield 186, 3) := by decide +kernel
theorem dX6_letters_25 : decode cX6_letters 25 = .ok (.iload_n 2, 1) := by decide +kernel
theorem dX6_letters_26 : decode cX6_letters 26 = .ok (.aload_n 0, 1) := by decide +kernel
theorem dX6_letters_27 : decode cX6_letters 27 = .ok (.getfield 28, 3) := by decide +kernel
theorem dX6_letters_30 : decode cX6_letters 30 = .ok (.iconst 2, 1) := by decide +kernel
theorem dX6_letters_31 : decode cX6_letters 31 = .ok (.iload_n 2, 1) := by decide +kernel
theorem dX6_letters_32 : decode cX6_letters 32 = .ok (.iconst 1, 1) := by decide +kernel
theorem dX6_letters_33 : decode cX6_letters 33 = .ok (.isub, 1) := by decide +kernel
theorem dX6_letters_34 : decode cX6_letters 34 = .ok (.imul, 1) := by decide +kernel
theorem dX6_letters_35 : decode cX6_letters 35 = .ok (.ishr, 1) := by decide +kernel
theorem dX6_letters_36 : decode cX6_letters 36 = .ok (.iconst 3, 1) := by decide +kernel
theorem dX6_letters_37 : decode cX6_letters 37 = .ok (.iand, 1) := by decide +kernel
theorem dX6_letters_38 : decode cX6_letters 38 = .ok (.iastore, 1) := by decide +kernel
theorem dX6_letters_39 : decode cX6_letters 39 = .ok (.iinc 2 1, 3) := by decide +kernel
theorem dX6_letters_42 : decode cX6_letters 42 = .ok (.goto (-27), 3) := by decide +kernel
theorem dX6_letters_45 : decode cX6_letters 45 = .ok (.aload_n 0, 1) := by decide +kernel
theorem dX6_letters_46 : decode cX6_letters 46 = .ok (.aload_n 0, 1) := by decide +kernel
theorem dX6_letters_47 : decode cX6_letters 47 = .ok (.getfield 18, 3) := by decide +kernel
theorem dX6_letters_50 : decode cX6_letters 50 = .ok (.iconst 1, 1) := by decide +kernel
theorem dX6_letters_51 : decode cX6_letters 51 = .ok (.iadd, 1) := by decide +kernel
theorem dX6_letters_52 : decode cX6_letters 52 = .ok (.invokevirtual 61, 3) := by decide +kernel
theorem dX6_letters_55 : decode cX6_letters 55 = .ok (.ireturn, 1) := by decide +kernel
set_option maxRecDepth 100000 in
set_option maxHeartbeats 4000000 in
theorem X6_letters_L15_bok {g : Gm} {w : Wd} (C : Cx g w RX6 cX6_letters 3 (some .boolean)) {lv : Nat} (hlv : 1 < lv) {N : Nat} {k45 : Nat → Mem → Option (Int × Mem)} {r15 : Nat → Nat → Int → Mem → Option (Int × Mem)} {l0 : Nat} {l1 : Nat} {l2 : Int} {m : Mem} {out : (Int × Mem)} (hk45 : ∀ l0 m, k45 l0 m = some out → Jd g w 3 (rmL lv 0 0) (Qm g w (some (vI out.1)) out.2) 45 [some (vR l0), none, none] [] 312 m 0 0) (hr15 : ∀ l0 l1 l2 m, r15 l0 l1 l2 m = some out → Jd g w 3 (rmL lv 0 0) (Qm g w (some (vI out.1)) out.2) 15 [some (vR l0), some (vR l1), some (vI l2)] [] 312 m 0 0) (h : X6_letters_L15_b N k45 r15 l0 l1 l2 m = some out) : Jd g w 3 (rmL lv 0 0) (Qm g w (some (vI out.1)) out.2) 15 [some (vR l0), some (vR l1), some (vI l2)] [] 312 m 0 0 := by
  unfold X6_letters_L15_b at h
  refine j_iload_n C dX6_letters_15 rfl ?_
  refine j_bipush C dX6_letters_16 rfl ?_
  refine j_icmp_gt C 45 dX6_letters_18 rfl h (fun c5 h => ?_) (fun c5 h => ?_)
  · refine j_mask [true, false, false] (ls' := [some (vR _), none, none]) rfl ?_
    exact hk45 _ _ h
  · refine j_aload_n C dX6_letters_21 rfl ?_
    refine j_getR C dX6_letters_22 CF5 (by decide) fl_X6_186 rfl rfl h (fun t2 h => ?_)
    refine j_iload_n C dX6_letters_25 rfl ?_
    refine j_aload_n C dX6_letters_26 rfl ?_
    refine j_getI C dX6_letters_27 CF6 (by decide) fl_X6_28 rfl rfl h (fun t3 h => ?_)
    refine j_iconst C dX6_letters_30 rfl ?_
    refine j_iload_n C dX6_letters_31 rfl ?_
    refine j_iconst C dX6_letters_32 rfl ?_
    refine j_isub C dX6_letters_33 ?_
    refine j_imul C dX6_letters_34 ?_
    refine j_ishr C dX6_letters_35 ?_
    refine j_iconst C dX6_letters_36 rfl ?_
    refine j_iand C dX6_letters_37 ?_
    refine j_iast C dX6_letters_38 rfl h (fun m4 h => ?_)
    refine j_iinc (ls' := [some (vR _), some (vR _), some (vI _)]) C dX6_letters_39 rfl (by decide) rfl ?_
    refine j_goto C 15 dX6_letters_42 rfl ?_
    exact hr15 _ _ _ _ h
set_option maxRecDepth 100000 in
set_option maxHeartbeats 4000000 in
theorem X6_letters_L15_ok {g : Gm} {w : Wd} (C : Cx g w RX6 cX6_letters 3 (some .boolean)) {lv : Nat} (hlv : 1 < lv) {N : Nat} {k45 : Nat → Mem → Option (Int × Mem)} {out : (Int × Mem)} (hk45 : ∀ l0 m, k45 l0 m = some out → Jd g w 3 (rmL lv 0 0) (Qm g w (some (vI out.1)) out.2) 45 [some (vR l0), none, none] [] 312 m 0 0) (f : Nat) : ∀ {l0 : Nat} {l1 : Nat} {l2 : Int} {m : Mem}, X6_letters_L15 N k45 f l0 l1 l2 m = some out → Jd g w 3 (rmL lv 0 0) (Qm g w (some (vI out.1)) out.2) 15 [some (vR l0), some (vR l1), some (vI l2)] [] 312 m 0 0 := by
  induction f with
  | zero => intro l0 l1 l2 m h; exact none_ne (α := (Int × Mem)) h
  | succ f ih => intro l0 l1 l2 m h; exact X6_letters_L15_bok C hlv hk45 (fun l0 l1 l2 m h => ih h) h
set_option maxRecDepth 100000 in
set_option maxHeartbeats 4000000 in
theorem X6_letters_ct {N : Nat} {l0 : Nat} {l1 : Nat} {m : Mem} {out : (Int × Mem)} (h : X6_letters N l0 l1 m = some out) : shK l0 = 6 + 10 ∧ CT yX6_letters cX6_letters 3 (some .boolean) 2 0 0 [vR l0, vR l1] 312 m (some (vI out.1)) 312 out.2 := by
  unfold X6_letters at h
  obtain ⟨hK, h⟩ := ite_some h
  have hlv : 1 < 2 := by decide
  refine ⟨hK, CT.of (by decide +kernel) rfl (Nat.le_of_ble_eq_true rfl) (ls := [some (vR l0), some (vR l1), none]) rfl fun g w C _ => ?_⟩
  refine j_aload_n C dX6_letters_0 rfl ?_
  refine j_getI C dX6_letters_1 CF6 (by decide) fl_X6_22 rfl rfl h (fun t1 h => ?_)
  refine j_iconst C dX6_letters_4 rfl ?_
  refine j_icmp_eq C 13 dX6_letters_5 rfl h (fun c13 h => ?_) (fun c13 h => ?_)
  · refine j_iconst C dX6_letters_13 rfl ?_
    refine j_istore_n (ls' := [some (vR _), some (vR _), some (vI _)]) C dX6_letters_14 (by decide) rfl ?_
    refine X6_letters_L15_ok C hlv (fun z6 m7 h => ?_) N h
    refine j_aload_n C dX6_letters_45 rfl ?_
    refine j_aload_n C dX6_letters_46 rfl ?_
    refine j_getI C dX6_letters_47 CF6 (by decide) fl_X6_18 rfl rfl h (fun t8 h => ?_)
    refine j_iconst C dX6_letters_50 rfl ?_
    refine j_iadd C dX6_letters_51 ?_
    obtain ⟨p9, ep9, h⟩ := bind_some h
    have qp9 := X6_goTo_ct ep9
    refine j_cVI C dX6_letters_52 vl_X6_61 CF6 rfl qp9.1 qp9.2 (by omega) rfl rfl (Nat.le_of_ble_eq_true rfl) ?_
    obtain ⟨r10, er10, h⟩ := bind_some h
    have e := Option.some.inj h
    subst e
    exact j_rz C dX6_letters_55 rfl (retZ_some er10) rfl
  · refine j_aload_n C dX6_letters_8 rfl ?_
    obtain ⟨p11, ep11, h⟩ := bind_some h
    have qp11 := X6_unexpected_ct ep11
    refine j_cVI C dX6_letters_9 vl_X6_139 CF6 rfl qp11.1 qp11.2 (by omega) rfl rfl (Nat.le_of_ble_eq_true rfl) ?_
    obtain ⟨r12, er12, h⟩ := bind_some h
    have e := Option.some.inj h
    subst e
    exact j_rz C dX6_letters_12 rfl (retZ_some er12) rfl
theorem dX7_begin_0 : decode cX7_begin 0 = .ok (.iload_n 1, 1) := by decide +kernel
theorem dX7_begin_1 : decode cX7_begin 1 = .ok (.ifCond .lt 33, 3) := by decide +kernel
theorem dX7_begin_4 : decode cX7_begin 4 = .ok (.iload_n 1, 1) := by decide +kernel
theorem dX7_begin_5 : decode cX7_begin 5 = .ok (.iconst 2, 1) := by decide +kernel
theorem dX7_begin_6 : decode cX7_begin 6 = .ok (.if_icmp .ge 28, 3) := by decide +kernel
theorem dX7_begin_9 : decode cX7_begin 9 = .ok (.aload_n 0, 1) := by decide +kernel
theorem dX7_begin_10 : decode cX7_begin 10 = .ok (.iload_n 1, 1) := by decide +kernel
theorem dX7_begin_11 : decode cX7_begin 11 = .ok (.putfield 19, 3) := by decide +kernel
theorem dX7_begin_14 : decode cX7_begin 14 = .ok (.aload_n 0, 1) := by decide +kernel
theorem dX7_begin_15 : decode cX7_begin 15 = .ok (.getfield 22, 3) := by decide +kernel
theorem dX7_begin_18 : decode cX7_begin 18 = .ok (.iload_n 1, 1) := by decide +kernel
theorem dX7_begin_19 : decode cX7_begin 19 = .ok (.aload_n 0, 1) := by decide +kernel
theorem dX7_begin_20 : decode cX7_begin 20 = .ok (.getfield 15, 3) := by decide +kernel
theorem dX7_begin_23 : decode cX7_begin 23 = .ok (.iastore, 1) := by decide +kernel
theorem dX7_begin_24 : decode cX7_begin 24 = .ok (.aload_n 0, 1) := by decide +kernel
theorem dX7_begin_25 : decode cX7_begin 25 = .ok (.getfield 25, 3) := by decide +kernel
theorem dX7_begin_28 : decode cX7_begin 28 = .ok (.iload_n 1, 1) := by decide +kernel
theorem dX7_begin_29 : decode cX7_begin 29 = .ok (.aload_n 0, 1) := by decide +kernel
theorem dX7_begin_30 : decode cX7_begin 30 = .ok (.getfield 15, 3) := by decide +kernel
theorem dX7_begin_33 : decode cX7_begin 33 = .ok (.iastore, 1) := by decide +kernel
theorem dX7_begin_34 : decode cX7_begin 34 = .ok (.iconst 1, 1) := by decide +kernel
theorem dX7_begin_35 : decode cX7_begin 35 = .ok (.ireturn, 1) := by decide +kernel
set_option maxRecDepth 100000 in
set_option maxHeartbeats 4000000 in
theorem X7_begin_ct {l0 : Nat} {l1 : Int} {m : Mem} {out : (Int × Mem)} (h : X7_begin l0 l1 m = some out) : shK l0 = 7 + 10 ∧ CT yX7_begin cX7_begin 2 (some .boolean) 1 0 0 [vR l0, vI l1] 312 m (some (vI out.1)) 312 out.2 := by
  unfold X7_begin at h
  obtain ⟨hK, h⟩ := ite_some h
  have hlv : 0 < 1 := by decide
  refine ⟨hK, CT.of (by decide +kernel) rfl (Nat.le_of_ble_eq_true rfl) (ls := [some (vR l0), some (vI l1)]) rfl fun g w C _ => ?_⟩
  refine j_iload_n C dX7_begin_0 rfl ?_
  refine j_if_lt C 34 dX7_begin_1 rfl h (fun c12 h => ?_) (fun c12 h => ?_)
  · refine j_iconst C dX7_begin_34 rfl ?_
    obtain ⟨r1, er1, h⟩ := bind_some h
    have e := Option.some.inj h
    subst e
    exact j_rz C dX7_begin_35 rfl (retZ_some er1) rfl
  · refine j_iload_n C dX7_begin_4 rfl ?_
    refine j_iconst C dX7_begin_5 rfl ?_
    refine j_icmp_ge C 34 dX7_begin_6 rfl h (fun c11 h => ?_) (fun c11 h => ?_)
    · refine j_iconst C dX7_begin_34 rfl ?_
      obtain ⟨r2, er2, h⟩ := bind_some h
      have e := Option.some.inj h
      subst e
      exact j_rz C dX7_begin_35 rfl (retZ_some er2) rfl
    · refine j_aload_n C dX7_begin_9 rfl ?_
      refine j_iload_n C dX7_begin_10 rfl ?_
      refine j_putI C dX7_begin_11 CF7 (by decide) fl_X7_19 rfl rfl rfl rfl h (fun m3 h => ?_)
      refine j_aload_n C dX7_begin_14 rfl ?_
      refine j_getR C dX7_begin_15 CF7 (by decide) fl_X7_22 rfl rfl h (fun t4 h => ?_)
      refine j_iload_n C dX7_begin_18 rfl ?_
      refine j_aload_n C dX7_begin_19 rfl ?_
      refine j_getI C dX7_begin_20 CF7 (by decide) fl_X7_15 rfl rfl h (fun t5 h => ?_)
      refine j_iast C dX7_begin_23 rfl h (fun m6 h => ?_)
      refine j_aload_n C dX7_begin_24 rfl ?_
      refine j_getR C dX7_begin_25 CF7 (by decide) fl_X7_25 rfl rfl h (fun t7 h => ?_)
      refine j_iload_n C dX7_begin_28 rfl ?_
      refine j_aload_n C dX7_begin_29 rfl ?_
      refine j_getI C dX7_begin_30 CF7 (by decide) fl_X7_15 rfl rfl h (fun t8 h => ?_)
      refine j_iast C dX7_begin_33 rfl h (fun m9 h => ?_)
      refine j_iconst C dX7_begin_34 rfl ?_
      obtain ⟨r10, er10, h⟩ := bind_some h
      have e := Option.some.inj h
      subst e
      exact j_rz C dX7_begin_35 rfl (retZ_some er10) rfl
theorem dX7_add_0 : decode cX7_add 0 = .ok (.aload_n 0, 1) := by decide +kernel
theorem dX7_add_1 : decode cX7_add 1 = .ok (.getfield 15, 3) := by decide +kernel
theorem dX7_add_4 : decode cX7_add 4 = .ok (.aload_n 0, 1) := by decide +kernel
theorem dX7_add_5 : decode cX7_add 5 = .ok (.getfield 9, 3) := by decide +kernel
theorem dX7_add_8 : decode cX7_add 8 = .ok (.arraylength, 1) := by decide +kernel
theorem dX7_add_9 : decode cX7_add 9 = .ok (.if_icmp .ge 36, 3) := by decide +kernel
theorem dX7_add_12 : decode cX7_add 12 = .ok (.aload_n 0, 1) := by decide +kernel
theorem dX7_add_13 : decode cX7_add 13 = .ok (.getfield 9, 3) := by decide +kernel
theorem dX7_add_16 : decode cX7_add 16 = .ok (.aload_n 0, 1) := by decide +kernel
theorem dX7_add_17 : decode cX7_add 17 = .ok (.getfield 15, 3) := by decide +kernel
theorem dX7_add_20 : decode cX7_add 20 = .ok (.iload_n 1, 1) := by decide +kernel
theorem dX7_add_21 : decode cX7_add 21 = .ok (.iastore, 1) := by decide +kernel
theorem dX7_add_22 : decode cX7_add 22 = .ok (.aload_n 0, 1) := by decide +kernel
theorem dX7_add_23 : decode cX7_add 23 = .ok (.dup, 1) := by decide +kernel
theorem dX7_add_24 : decode cX7_add 24 = .ok (.getfield 15, 3) := by decide +kernel
theorem dX7_add_27 : decode cX7_add 27 = .ok (.iconst 1, 1) := by decide +kernel
theorem dX7_add_28 : decode cX7_add 28 = .ok (.iadd, 1) := by decide +kernel
theorem dX7_add_29 : decode cX7_add 29 = .ok (.putfield 15, 3) := by decide +kernel
theorem dX7_add_32 : decode cX7_add 32 = .ok (.aload_n 0, 1) := by decide +kernel
theorem dX7_add_33 : decode cX7_add 33 = .ok (.getfield 25, 3) := by decide +kernel
theorem dX7_add_36 : decode cX7_add 36 = .ok (.aload_n 0, 1) := by decide +kernel
theorem dX7_add_37 : decode cX7_add 37 = .ok (.getfield 19, 3) := by decide +kernel
theorem dX7_add_40 : decode cX7_add 40 = .ok (.aload_n 0, 1) := by decide +kernel
theorem dX7_add_41 : decode cX7_add 41 = .ok (.getfield 15, 3) := by decide +kernel
theorem dX7_add_44 : decode cX7_add 44 = .ok (.iastore, 1) := by decide +kernel
theorem dX7_add_45 : decode cX7_add 45 = .ok (.iconst 1, 1) := by decide +kernel
theorem dX7_add_46 : decode cX7_add 46 = .ok (.ireturn, 1) := by decide +kernel
set_option maxRecDepth 100000 in
set_option maxHeartbeats 4000000 in
theorem X7_add_ct {l0 : Nat} {l1 : Int} {m : Mem} {out : (Int × Mem)} (h : X7_add l0 l1 m = some out) : shK l0 = 7 + 10 ∧ CT yX7_add cX7_add 2 (some .boolean) 1 0 0 [vR l0, vI l1] 312 m (some (vI out.1)) 312 out.2 := by
  unfold X7_add at h
  obtain ⟨hK, h⟩ := ite_some h
  have hlv : 0 < 1 := by decide
  refine ⟨hK, CT.of (by decide +kernel) rfl (Nat.le_of_ble_eq_true rfl) (ls := [some (vR l0), some (vI l1)]) rfl fun g w C _ => ?_⟩
  refine j_aload_n C dX7_add_0 rfl ?_
  refine j_getI C dX7_add_1 CF7 (by decide) fl_X7_15 rfl rfl h (fun t1 h => ?_)
  refine j_aload_n C dX7_add_4 rfl ?_
  refine j_getR C dX7_add_5 CF7 (by decide) fl_X7_9 rfl rfl h (fun t2 h => ?_)
  refine j_alen C dX7_add_8 rfl h (fun t3 h => ?_)
  refine j_icmp_ge C 45 dX7_add_9 rfl h (fun c15 h => ?_) (fun c15 h => ?_)
  · refine j_iconst C dX7_add_45 rfl ?_
    obtain ⟨r4, er4, h⟩ := bind_some h
    have e := Option.some.inj h
    subst e
    exact j_rz C dX7_add_46 rfl (retZ_some er4) rfl
  · refine j_aload_n C dX7_add_12 rfl ?_
    refine j_getR C dX7_add_13 CF7 (by decide) fl_X7_9 rfl rfl h (fun t5 h => ?_)
    refine j_aload_n C dX7_add_16 rfl ?_
    refine j_getI C dX7_add_17 CF7 (by decide) fl_X7_15 rfl rfl h (fun t6 h => ?_)
    refine j_iload_n C dX7_add_20 rfl ?_
    refine j_iast C dX7_add_21 rfl h (fun m7 h => ?_)
    refine j_aload_n C dX7_add_22 rfl ?_
    refine j_dup C dX7_add_23 rfl ?_
    refine j_getI C dX7_add_24 CF7 (by decide) fl_X7_15 rfl rfl h (fun t8 h => ?_)
    refine j_iconst C dX7_add_27 rfl ?_
    refine j_iadd C dX7_add_28 ?_
    refine j_putI C dX7_add_29 CF7 (by decide) fl_X7_15 rfl rfl rfl rfl h (fun m9 h => ?_)
    refine j_aload_n C dX7_add_32 rfl ?_
    refine j_getR C dX7_add_33 CF7 (by decide) fl_X7_25 rfl rfl h (fun t10 h => ?_)
    refine j_aload_n C dX7_add_36 rfl ?_
    refine j_getI C dX7_add_37 CF7 (by decide) fl_X7_19 rfl rfl h (fun t11 h => ?_)
    refine j_aload_n C dX7_add_40 rfl ?_
    refine j_getI C dX7_add_41 CF7 (by decide) fl_X7_15 rfl rfl h (fun t12 h => ?_)
    refine j_iast C dX7_add_44 rfl h (fun m13 h => ?_)
    refine j_iconst C dX7_add_45 rfl ?_
    obtain ⟨r14, er14, h⟩ := bind_some h
    have e := Option.some.inj h
    subst e
    exact j_rz C dX7_add_46 rfl (retZ_some er14) rfl
theorem dX7_codeOf_0 : decode cX7_codeOf 0 = .ok (.iconst (-1), 1) := by decide +kernel
theorem dX7_codeOf_1 : decode cX7_codeOf 1 = .ok (.iload_n 0, 1) := by decide +kernel
theorem dX7_codeOf_2 : decode cX7_codeOf 2 = .ok (.isub, 1) := by decide +kernel
theorem dX7_codeOf_3 : decode cX7_codeOf 3 = .ok (.ireturn, 1) := by decide +kernel
set_option maxRecDepth 100000 in
set_option maxHeartbeats 4000000 in
theorem X7_codeOf_ct {l0 : Int} {m : Mem} {out : Int} (h : X7_codeOf l0 m = some out) : CT yX7_codeOf cX7_codeOf 1 (some .int) 1 0 0 [vI l0] 312 m (some (vI out)) 312 m := by
  unfold X7_codeOf at h
  have hlv : 0 < 1 := by decide
  refine CT.of (by decide +kernel) rfl (Nat.le_of_ble_eq_true rfl) (ls := [some (vI l0)]) rfl fun g w C _ => ?_
  refine j_iconst C dX7_codeOf_0 rfl ?_
  refine j_iload_n C dX7_codeOf_1 rfl ?_
  refine j_isub C dX7_codeOf_2 ?_
  exact j_ri C dX7_codeOf_3 rfl (Option.some.inj h).symm rfl
theorem dX6_isSign_0 : decode cX6_isSign 0 = .ok (.aload_n 0, 1) := by decide +kernel
theorem dX6_isSign_1 : decode cX6_isSign 1 = .ok (.getfield 22, 3) := by decide +kernel
theorem dX6_isSign_4 : decode cX6_isSign 4 = .ok (.iconst 5, 1) := by decide +kernel
theorem dX6_isSign_5 : decode cX6_isSign 5 = .ok (.if_icmp .ne 31, 3) := by decide +kernel
theorem dX6_isSign_8 : decode cX6_isSign 8 = .ok (.aload_n 0, 1) := by decide +kernel
theorem dX6_isSign_9 : decode cX6_isSign 9 = .ok (.getfield 28, 3) := by decide +kernel
theorem dX6_isSign_12 : decode cX6_isSign 12 = .ok (.iload_n 1, 1) := by decide +kernel
theorem dX6_isSign_13 : decode cX6_isSign 13 = .ok (.if_icmp .eq 19, 3) := by decide +kernel
theorem dX6_isSign_16 : decode cX6_isSign 16 = .ok (.aload_n 0, 1) := by decide +kernel
theorem dX6_isSign_17 : decode cX6_isSign 17 = .ok (.getfield 28, 3) := by decide +kernel
theorem dX6_isSign_20 : decode cX6_isSign 20 = .ok (.iload_n 2, 1) := by decide +kernel
theorem dX6_isSign_21 : decode cX6_isSign 21 = .ok (.if_icmp .eq 11, 3) := by decide +kernel
theorem dX6_isSign_24 : decode cX6_isSign 24 = .ok (.aload_n 0, 1) := by decide +kernel
theorem dX6_isSign_25 : decode cX6_isSign 25 = .ok (.getfield 28, 3) := by decide +kernel
theorem dX6_isSign_28 : decode cX6_isSign 28 = .ok (.iload_n 3, 1) := by decide +kernel
theorem dX6_isSign_29 : decode cX6_isSign 29 = .ok (.if_icmp .ne 7, 3) := by decide +kernel
theorem dX6_isSign_32 : decode cX6_isSign 32 = .ok (.iconst 1, 1) := by decide +kernel
theorem dX6_isSign_33 : decode cX6_isSign 33 = .ok (.goto 4, 3) := by decide +kernel
theorem dX6_isSign_36 : decode cX6_isSign 36 = .ok (.iconst 0, 1) := by decide +kernel
theorem dX6_isSign_37 : decode cX6_isSign 37 = .ok (.ireturn, 1) := by decide +kernel
set_option maxRecDepth 100000 in
set_option maxHeartbeats 4000000 in
theorem X6_isSign_J32_ok {g : Gm} {w : Wd} (C : Cx g w RX6 cX6_isSign 4 (some .boolean)) {lv : Nat} (hlv : 0 < lv)  {m : Mem} {out : Int} (h : X6_isSign_J32 m = some out) : Jd g w 4 (rmL lv 0 0) (Qm g w (some (vI out)) m) 32 [none, none, none, none] [] 312 m 0 0 := by
  unfold X6_isSign_J32 at h
  refine j_iconst C dX6_isSign_32 rfl ?_
  refine j_goto C 37 dX6_isSign_33 rfl ?_
  exact j_rz C dX6_isSign_37 rfl (retZ_some h) rfl
set_option maxRecDepth 100000 in
set_option maxHeartbeats 4000000 in
theorem X6_isSign_ct {l0 : Nat} {l1 : Int} {l2 : Int} {l3 : Int} {m : Mem} {out : Int} (h : X6_isSign l0 l1 l2 l3 m = some out) : shK l0 = 6 + 10 ∧ CT yX6_isSign cX6_isSign 4 (some .boolean) 1 0 0 [vR l0, vI l1, vI l2, vI l3] 312 m (some (vI out)) 312 m := by
  unfold X6_isSign at h
  obtain ⟨hK, h⟩ := ite_some h
  have hlv : 0 < 1 := by decide
  refine ⟨hK, CT.of (by decide +kernel) rfl (Nat.le_of_ble_eq_true rfl) (ls := [some (vR l0), some (vI l1), some (vI l2), some (vI l3)]) rfl fun g w C _ => ?_⟩
  refine j_aload_n C dX6_isSign_0 rfl ?_
  refine j_getI C dX6_isSign_1 CF6 (by decide) fl_X6_22 rfl rfl h (fun t1 h => ?_)
  refine j_iconst C dX6_isSign_4 rfl ?_
  refine j_icmp_ne C 36 dX6_isSign_5 rfl h (fun c8 h => ?_) (fun c8 h => ?_)
  · refine j_iconst C dX6_isSign_36 rfl ?_
    exact j_rz C dX6_isSign_37 rfl (retZ_some h) rfl
  · refine j_aload_n C dX6_isSign_8 rfl ?_
    refine j_getI C dX6_isSign_9 CF6 (by decide) fl_X6_28 rfl rfl h (fun t2 h => ?_)
    refine j_iload_n C dX6_isSign_12 rfl ?_
    refine j_icmp_eq C 32 dX6_isSign_13 rfl h (fun c7 h => ?_) (fun c7 h => ?_)
    · refine j_mask [false, false, false, false] (ls' := [none, none, none, none]) rfl ?_
      exact X6_isSign_J32_ok C hlv h
    · refine j_aload_n C dX6_isSign_16 rfl ?_
      refine j_getI C dX6_isSign_17 CF6 (by decide) fl_X6_28 rfl rfl h (fun t3 h => ?_)
      refine j_iload_n C dX6_isSign_20 rfl ?_
      refine j_icmp_eq C 32 dX6_isSign_21 rfl h (fun c6 h => ?_) (fun c6 h => ?_)
      · refine j_mask [false, false, false, false] (ls' := [none, none, none, none]) rfl ?_
        exact X6_isSign_J32_ok C hlv h
      · refine j_aload_n C dX6_isSign_24 rfl ?_
        refine j_getI C dX6_isSign_25 CF6 (by decide) fl_X6_28 rfl rfl h (fun t4 h => ?_)
        refine j_iload_n C dX6_isSign_28 rfl ?_
        refine j_icmp_ne C 36 dX6_isSign_29 rfl h (fun c5 h => ?_) (fun c5 h => ?_)
        · refine j_iconst C dX6_isSign_36 rfl ?_
          exact j_rz C dX6_isSign_37 rfl (retZ_some h) rfl
        · refine j_mask [false, false, false, false] (ls' := [none, none, none, none]) rfl ?_
          exact X6_isSign_J32_ok C hlv h
theorem dX6_part_0 : decode cX6_part 0 = .ok (.aload_n 0, 1) := by decide +kernel
theorem dX6_part_1 : decode cX6_part 1 = .ok (.getfield 22, 3) := by decide +kernel
theorem dX6_part_4 : decode cX6_part 4 = .ok (.iconst 2, 1) := by decide +kernel
theorem dX6_part_5 : decode cX6_part 5 = .ok (.if_icmp .ne 10, 3) := by decide +kernel
theorem dX6_part_8 : decode cX6_part 8 = .ok (.aload_n 0, 1) := by decide +kernel
theorem dX6_part_9 : decode cX6_part 9 = .ok (.getfield 28, 3) := by decide +kernel
theorem dX6_part_12 : decode cX6_part 12 = .ok (.goto 4, 3) := by decide +kernel
theorem dX6_part_15 : decode cX6_part 15 = .ok (.iconst (-1), 1) := by decide +kernel
theorem dX6_part_16 : decode cX6_part 16 = .ok (.istore_n 3, 1) := by decide +kernel
theorem dX6_part_17 : decode cX6_part 17 = .ok (.aload_n 0, 1) := by decide +kernel
theorem dX6_part_18 : decode cX6_part 18 = .ok (.getfield 22, 3) := by decide +kernel
theorem dX6_part_21 : decode cX6_part 21 = .ok (.iconst 1, 1) := by decide +kernel
theorem dX6_part_22 : decode cX6_part 22 = .ok (.if_icmp .ne 33, 3) := by decide +kernel
theorem dX6_part_25 : decode cX6_part 25 = .ok (.aload_n 1, 1) := by decide +kernel
theorem dX6_part_26 : decode cX6_part 26 = .ok (.aload_n 0, 1) := by decide +kernel
theorem dX6_part_27 : decode cX6_part 27 = .ok (.getfield 28, 3) := by decide +kernel
theorem dX6_part_30 : decode cX6_part 30 = .ok (.invokevirtual 202, 3) := by decide +kernel
theorem dX6_part_33 : decode cX6_part 33 = .ok (.ifCond .eq 20, 3) := by decide +kernel
theorem dX6_part_36 : decode cX6_part 36 = .ok (.aload_n 0, 1) := by decide +kernel
theorem dX6_part_37 : decode cX6_part 37 = .ok (.aload_n 0, 1) := by decide +kernel
theorem dX6_part_38 : decode cX6_part 38 = .ok (.getfield 18, 3) := by decide +kernel
theorem dX6_part_41 : decode cX6_part 41 = .ok (.iconst 1, 1) := by decide +kernel
theorem dX6_part_42 : decode cX6_part 42 = .ok (.iadd, 1) := by decide +kernel
theorem dX6_part_43 : decode cX6_part 43 = .ok (.invokevirtual 61, 3) := by decide +kernel
theorem dX6_part_46 : decode cX6_part 46 = .ok (.ifCond .eq 7, 3) := by decide +kernel
theorem dX6_part_49 : decode cX6_part 49 = .ok (.iconst 1, 1) := by decide +kernel
theorem dX6_part_50 : decode cX6_part 50 = .ok (.goto 4, 3) := by decide +kernel
theorem dX6_part_53 : decode cX6_part 53 = .ok (.iconst 0, 1) := by decide +kernel
theorem dX6_part_54 : decode cX6_part 54 = .ok (.ireturn, 1) := by decide +kernel
theorem dX6_part_55 : decode cX6_part 55 = .ok (.iload_n 3, 1) := by decide +kernel
theorem dX6_part_56 : decode cX6_part 56 = .ok (.bipush 7, 2) := by decide +kernel
theorem dX6_part_58 : decode cX6_part 58 = .ok (.if_icmp .ne 34, 3) := by decide +kernel
theorem dX6_part_61 : decode cX6_part 61 = .ok (.aload_n 1, 1) := by decide +kernel
theorem dX6_part_62 : decode cX6_part 62 = .ok (.bipush 9, 2) := by decide +kernel
theorem dX6_part_64 : decode cX6_part 64 = .ok (.invokestatic 208, 3) := by decide +kernel
theorem dX6_part_67 : decode cX6_part 67 = .ok (.invokevirtual 202, 3) := by decide +kernel
theorem dX6_part_70 : decode cX6_part 70 = .ok (.ifCond .eq 20, 3) := by decide +kernel
theorem dX6_part_73 : decode cX6_part 73 = .ok (.aload_n 0, 1) := by decide +kernel
theorem dX6_part_74 : decode cX6_part 74 = .ok (.aload_n 0, 1) := by decide +kernel
theorem dX6_part_75 : decode cX6_part 75 = .ok (.getfield 18, 3) := by decide +kernel
theorem dX6_part_78 : decode cX6_part 78 = .ok (.iconst 1, 1) := by decide +kernel
theorem dX6_part_79 : decode cX6_part 79 = .ok (.iadd, 1) := by decide +kernel
theorem dX6_part_80 : decode cX6_part 80 = .ok (.invokevirtual 61, 3) := by decide +kernel
theorem dX6_part_83 : decode cX6_part 83 = .ok (.ifCond .eq 7, 3) := by decide +kernel
theorem dX6_part_86 : decode cX6_part 86 = .ok (.iconst 1, 1) := by decide +kernel
theorem dX6_part_87 : decode cX6_part 87 = .ok (.goto 4, 3) := by decide +kernel
theorem dX6_part_90 : decode cX6_part 90 = .ok (.iconst 0, 1) := by decide +kernel
theorem dX6_part_91 : decode cX6_part 91 = .ok (.ireturn, 1) := by decide +kernel
theorem dX6_part_92 : decode cX6_part 92 = .ok (.iload_n 3, 1) := by decide +kernel
theorem dX6_part_93 : decode cX6_part 93 = .ok (.bipush 16, 2) := by decide +kernel
theorem dX6_part_95 : decode cX6_part 95 = .ok (.if_icmp .lt 42, 3) := by decide +kernel
theorem dX6_part_98 : decode cX6_part 98 = .ok (.iload_n 3, 1) := by decide +kernel
theorem dX6_part_99 : decode cX6_part 99 = .ok (.bipush 24, 2) := by decide +kernel
theorem dX6_part_101 : decode cX6_part 101 = .ok (.if_icmp .gt 36, 3) := by decide +kernel
theorem dX6_part_104 : decode cX6_part 104 = .ok (.aload_n 1, 1) := by decide +kernel
theorem dX6_part_105 : decode cX6_part 105 = .ok (.iload_n 3, 1) := by decide +kernel
theorem dX6_part_106 : decode cX6_part 106 = .ok (.bipush 16, 2) := by decide +kernel
theorem dX6_part_108 : decode cX6_part 108 = .ok (.isub, 1) := by decide +kernel
theorem dX6_part_109 : decode cX6_part 109 = .ok (.invokestatic 208, 3) := by decide +kernel
theorem dX6_part_112 : decode cX6_part 112 = .ok (.invokevirtual 202, 3) := by decide +kernel
theorem dX6_part_115 : decode cX6_part 115 = .ok (.ifCond .eq 20, 3) := by decide +kernel
theorem dX6_part_118 : decode cX6_part 118 = .ok (.aload_n 0, 1) := by decide +kernel
theorem dX6_part_119 : decode cX6_part 119 = .ok (.aload_n 0, 1) := by decide +kernel
theorem dX6_part_120 : decode cX6_part 120 = .ok (.getfield 18, 3) := by decide +kernel
theorem dX6_part_123 : decode cX6_part 123 = .ok (.iconst 1, 1) := by decide +kernel
theorem dX6_part_124 : decode cX6_part 124 = .ok (.iadd, 1) := by decide +kernel
theorem dX6_part_125 : decode cX6_part 125 = .ok (.invokevirtual 61, 3) := by decide +kernel
theorem dX6_part_128 : decode cX6_part 128 = .ok (.ifCond .eq 7, 3) := by decide +kernel
theorem dX6_part_131 : decode cX6_part 131 = .ok (.iconst 1, 1) := by decide +kernel
theorem dX6_part_132 : decode cX6_part 132 = .ok (.goto 4, 3) := by decide +kernel
theorem dX6_part_135 : decode cX6_part 135 = .ok (.iconst 0, 1) := by decide +kernel
theorem dX6_part_136 : decode cX6_part 136 = .ok (.ireturn, 1) := by decide +kernel
theorem dX6_part_137 : decode cX6_part 137 = .ok (.iload_n 3, 1) := by decide +kernel
theorem dX6_part_138 : decode cX6_part 138 = .ok (.bipush 25, 2) := by decide +kernel
theorem dX6_part_140 : decode cX6_part 140 = .ok (.if_icmp .eq 9, 3) := by decide +kernel
theorem dX6_part_143 : decode cX6_part 143 = .ok (.iload_n 3, 1) := by decide +kernel
theorem dX6_part_144 : decode cX6_part 144 = .ok (.bipush 26, 2) := by decide +kernel
theorem dX6_part_146 : decode cX6_part 146 = .ok (.if_icmp .ne 7, 3) := by decide +kernel
theorem dX6_part_149 : decode cX6_part 149 = .ok (.iconst 1, 1) := by decide +kernel
theorem dX6_part_150 : decode cX6_part 150 = .ok (.goto 4, 3) := by decide +kernel
theorem dX6_part_153 : decode cX6_part 153 = .ok (.iconst 0, 1) := by decide +kernel
theorem dX6_part_154 : decode cX6_part 154 = .ok (.istore 4, 2) := by decide +kernel
theorem dX6_part_156 : decode cX6_part 156 = .ok (.iload 4, 2) := by decide +kernel
theorem dX6_part_158 : decode cX6_part 158 = .ok (.ifCond .eq 14, 3) := by decide +kernel
theorem dX6_part_161 : decode cX6_part 161 = .ok (.aload_n 0, 1) := by decide +kernel
theorem dX6_part_162 : decode cX6_part 162 = .ok (.aload_n 0, 1) := by decide +kernel
theorem dX6_part_163 : decode cX6_part 163 = .ok (.getfield 18, 3) := by decide +kernel
theorem dX6_part_166 : decode cX6_part 166 = .ok (.iconst 1, 1) := by decide +kernel
theorem dX6_part_167 : decode cX6_part 167 = .ok (.iadd, 1) := by decide +kernel
theorem dX6_part_168 : decode cX6_part 168 = .ok (.invokevirtual 61, 3) := by decide +kernel
theorem dX6_part_171 : decode cX6_part 171 = .ok (.pop, 1) := by decide +kernel
theorem dX6_part_172 : decode cX6_part 172 = .ok (.aload_n 0, 1) := by decide +kernel
theorem dX6_part_173 : decode cX6_part 173 = .ok (.getfield 22, 3) := by decide +kernel
theorem dX6_part_176 : decode cX6_part 176 = .ok (.iconst 5, 1) := by decide +kernel
theorem dX6_part_177 : decode cX6_part 177 = .ok (.if_icmp .ne 12, 3) := by decide +kernel
theorem dX6_part_180 : decode cX6_part 180 = .ok (.aload_n 0, 1) := by decide +kernel
theorem dX6_part_181 : decode cX6_part 181 = .ok (.getfield 28, 3) := by decide +kernel
theorem dX6_part_184 : decode cX6_part 184 = .ok (.bipush 40, 2) := by decide +kernel
theorem dX6_part_186 : decode cX6_part 186 = .ok (.if_icmp .eq 8, 3) := by decide +kernel
theorem dX6_part_189 : decode cX6_part 189 = .ok (.aload_n 0, 1) := by decide +kernel
theorem dX6_part_190 : decode cX6_part 190 = .ok (.invokevirtual 139, 3) := by decide +kernel
theorem dX6_part_193 : decode cX6_part 193 = .ok (.ireturn, 1) := by decide +kernel
theorem dX6_part_194 : decode cX6_part 194 = .ok (.iload_n 2, 1) := by decide +kernel
theorem dX6_part_195 : decode cX6_part 195 = .ok (.bipush 7, 2) := by decide +kernel
theorem dX6_part_197 : decode cX6_part 197 = .ok (.if_icmp .lt 13, 3) := by decide +kernel
theorem dX6_part_200 : decode cX6_part 200 = .ok (.aload_n 0, 1) := by decide +kernel
theorem dX6_part_201 : decode cX6_part 201 = .ok (.iconst 5, 1) := by decide +kernel
theorem dX6_part_202 : decode cX6_part 202 = .ok (.aload_n 0, 1) := by decide +kernel
theorem dX6_part_203 : decode cX6_part 203 = .ok (.getfield 25, 3) := by decide +kernel
theorem dX6_part_206 : decode cX6_part 206 = .ok (.invokevirtual 94, 3) := by decide +kernel
theorem dX6_part_209 : decode cX6_part 209 = .ok (.ireturn, 1) := by decide +kernel
theorem dX6_part_210 : decode cX6_part 210 = .ok (.aload_n 0, 1) := by decide +kernel
theorem dX6_part_211 : decode cX6_part 211 = .ok (.aload_n 0, 1) := by decide +kernel
theorem dX6_part_212 : decode cX6_part 212 = .ok (.getfield 18, 3) := by decide +kernel
theorem dX6_part_215 : decode cX6_part 215 = .ok (.iconst 1, 1) := by decide +kernel
theorem dX6_part_216 : decode cX6_part 216 = .ok (.iadd, 1) := by decide +kernel
theorem dX6_part_217 : decode cX6_part 217 = .ok (.invokevirtual 61, 3) := by decide +kernel
theorem dX6_part_220 : decode cX6_part 220 = .ok (.ifCond .eq 18, 3) := by decide +kernel
theorem dX6_part_223 : decode cX6_part 223 = .ok (.aload_n 0, 1) := by decide +kernel
theorem dX6_part_224 : decode cX6_part 224 = .ok (.aload_n 1, 1) := by decide +kernel
theorem dX6_part_225 : decode cX6_part 225 = .ok (.iload_n 2, 1) := by decide +kernel
theorem dX6_part_226 : decode cX6_part 226 = .ok (.iconst 1, 1) := by decide +kernel
theorem dX6_part_227 : decode cX6_part 227 = .ok (.iadd, 1) := by decide +kernel
theorem dX6_part_228 : decode cX6_part 228 = .ok (.invokevirtual 126, 3) := by decide +kernel
theorem dX6_part_231 : decode cX6_part 231 = .ok (.ifCond .eq 7, 3) := by decide +kernel
theorem dX6_part_234 : decode cX6_part 234 = .ok (.iconst 1, 1) := by decide +kernel
theorem dX6_part_235 : decode cX6_part 235 = .ok (.goto 4, 3) := by decide +kernel
theorem dX6_part_238 : decode cX6_part 238 = .ok (.iconst 0, 1) := by decide +kernel
theorem dX6_part_239 : decode cX6_part 239 = .ok (.istore 5, 2) := by decide +kernel
theorem dX6_part_241 : decode cX6_part 241 = .ok (.iload 4, 2) := by decide +kernel
theorem dX6_part_243 : decode cX6_part 243 = .ok (.ifCond .eq 55, 3) := by decide +kernel
theorem dX6_part_246 : decode cX6_part 246 = .ok (.iload 5, 2) := by decide +kernel
theorem dX6_part_248 : decode cX6_part 248 = .ok (.ifCond .eq 47, 3) := by decide +kernel
theorem dX6_part_251 : decode cX6_part 251 = .ok (.aload_n 0, 1) := by decide +kernel
theorem dX6_part_252 : decode cX6_part 252 = .ok (.bipush 44, 2) := by decide +kernel
theorem dX6_part_254 : decode cX6_part 254 = .ok (.invokevirtual 86, 3) := by decide +kernel
theorem dX6_part_257 : decode cX6_part 257 = .ok (.ifCond .eq 38, 3) := by decide +kernel
theorem dX6_part_260 : decode cX6_part 260 = .ok (.aload_n 0, 1) := by decide +kernel
theorem dX6_part_261 : decode cX6_part 261 = .ok (.aload_n 1, 1) := by decide +kernel
theorem dX6_part_262 : decode cX6_part 262 = .ok (.iload_n 2, 1) := by decide +kernel
theorem dX6_part_263 : decode cX6_part 263 = .ok (.iconst 1, 1) := by decide +kernel
theorem dX6_part_264 : decode cX6_part 264 = .ok (.iadd, 1) := by decide +kernel
theorem dX6_part_265 : decode cX6_part 265 = .ok (.invokevirtual 126, 3) := by decide +kernel
theorem dX6_part_268 : decode cX6_part 268 = .ok (.ifCond .eq 27, 3) := by decide +kernel
theorem dX6_part_271 : decode cX6_part 271 = .ok (.aload_n 1, 1) := by decide +kernel
theorem dX6_part_272 : decode cX6_part 272 = .ok (.iload_n 3, 1) := by decide +kernel
theorem dX6_part_273 : decode cX6_part 273 = .ok (.bipush 25, 2) := by decide +kernel
theorem dX6_part_275 : decode cX6_part 275 = .ok (.if_icmp .ne 8, 3) := by decide +kernel
theorem dX6_part_278 : decode cX6_part 278 = .ok (.bipush (-100), 2) := by decide +kernel
theorem dX6_part_280 : decode cX6_part 280 = .ok (.goto 5, 3) := by decide +kernel
theorem dX6_part_283 : decode cX6_part 283 = .ok (.bipush (-101), 2) := by decide +kernel
theorem dX6_part_285 : decode cX6_part 285 = .ok (.invokevirtual 202, 3) := by decide +kernel
theorem dX6_part_288 : decode cX6_part 288 = .ok (.ifCond .eq 7, 3) := by decide +kernel
theorem dX6_part_291 : decode cX6_part 291 = .ok (.iconst 1, 1) := by decide +kernel
theorem dX6_part_292 : decode cX6_part 292 = .ok (.goto 4, 3) := by decide +kernel
theorem dX6_part_295 : decode cX6_part 295 = .ok (.iconst 0, 1) := by decide +kernel
theorem dX6_part_296 : decode cX6_part 296 = .ok (.istore 5, 2) := by decide +kernel
theorem dX6_part_298 : decode cX6_part 298 = .ok (.iload 5, 2) := by decide +kernel
theorem dX6_part_300 : decode cX6_part 300 = .ok (.ifCond .eq 16, 3) := by decide +kernel
theorem dX6_part_303 : decode cX6_part 303 = .ok (.aload_n 0, 1) := by decide +kernel
theorem dX6_part_304 : decode cX6_part 304 = .ok (.bipush 41, 2) := by decide +kernel
theorem dX6_part_306 : decode cX6_part 306 = .ok (.invokevirtual 86, 3) := by decide +kernel
theorem dX6_part_309 : decode cX6_part 309 = .ok (.ifCond .eq 7, 3) := by decide +kernel
theorem dX6_part_312 : decode cX6_part 312 = .ok (.iconst 1, 1) := by decide +kernel
theorem dX6_part_313 : decode cX6_part 313 = .ok (.goto 4, 3) := by decide +kernel
theorem dX6_part_316 : decode cX6_part 316 = .ok (.iconst 0, 1) := by decide +kernel
theorem dX6_part_317 : decode cX6_part 317 = .ok (.ireturn, 1) := by decide +kernel
set_option maxRecDepth 100000 in
set_option maxHeartbeats 4000000 in
theorem X6_part_J189_ok {g : Gm} {w : Wd} (C : Cx g w RX6 cX6_part 6 (some .boolean)) {lv : Nat} (hlv : 2 < lv) {N : Nat} {lvs : Nat} (hk : 8 ≤ lvs) (hs : lvs + 0 < lv) {self : Nat → Nat → Int → Mem → Option (Int × Mem)} (hself : ∀ l0 l1 l2 m r, self l0 l1 l2 m = some r → shK l0 = 6 + 10 ∧ CT yX6_sum cX6_sum 6 (some .boolean) lvs 0 0 [vR l0, vR l1, vI l2] 312 m (some (vI r.1)) 312 r.2) {l0 : Nat} {m : Mem} {out : (Int × Mem)} (h : X6_part_J189 N self l0 m = some out) : Jd g w 6 (rmL lv 0 0) (Qm g w (some (vI out.1)) out.2) 189 [some (vR l0), none, none, none, none, none] [] 312 m 0 0 := by
  unfold X6_part_J189 at h
  refine j_aload_n C dX6_part_189 rfl ?_
  obtain ⟨p4, ep4, h⟩ := bind_some h
  have qp4 := X6_unexpected_ct ep4
  refine j_cVI C dX6_part_190 vl_X6_139 CF6 rfl qp4.1 qp4.2 (by omega) rfl rfl (Nat.le_of_ble_eq_true rfl) ?_
  obtain ⟨r5, er5, h⟩ := bind_some h
  have e := Option.some.inj h
  subst e
  exact j_rz C dX6_part_193 rfl (retZ_some er5) rfl
set_option maxRecDepth 100000 in
set_option maxHeartbeats 4000000 in
theorem X6_part_J298_ok {g : Gm} {w : Wd} (C : Cx g w RX6 cX6_part 6 (some .boolean)) {lv : Nat} (hlv : 2 < lv) {N : Nat} {lvs : Nat} (hk : 8 ≤ lvs) (hs : lvs + 0 < lv) {self : Nat → Nat → Int → Mem → Option (Int × Mem)} (hself : ∀ l0 l1 l2 m r, self l0 l1 l2 m = some r → shK l0 = 6 + 10 ∧ CT yX6_sum cX6_sum 6 (some .boolean) lvs 0 0 [vR l0, vR l1, vI l2] 312 m (some (vI r.1)) 312 r.2) {l0 : Nat} {l5 : Int} {m : Mem} {out : (Int × Mem)} (h : X6_part_J298 N self l0 l5 m = some out) : Jd g w 6 (rmL lv 0 0) (Qm g w (some (vI out.1)) out.2) 298 [some (vR l0), none, none, none, none, some (vI l5)] [] 312 m 0 0 := by
  unfold X6_part_J298 at h
  refine j_iload C dX6_part_298 rfl ?_
  refine j_if_eq C 316 dX6_part_300 rfl h (fun c14 h => ?_) (fun c14 h => ?_)
  · refine j_iconst C dX6_part_316 rfl ?_
    obtain ⟨r9, er9, h⟩ := bind_some h
    have e := Option.some.inj h
    subst e
    exact j_rz C dX6_part_317 rfl (retZ_some er9) rfl
  · refine j_aload_n C dX6_part_303 rfl ?_
    refine j_bipush C dX6_part_304 rfl ?_
    obtain ⟨p10, ep10, h⟩ := bind_some h
    have qp10 := X6_sign_ct ep10
    refine j_cVI C dX6_part_306 vl_X6_86 CF6 rfl qp10.1 qp10.2 (by omega) rfl rfl (Nat.le_of_ble_eq_true rfl) ?_
    refine j_if_eq C 316 dX6_part_309 rfl h (fun c13 h => ?_) (fun c13 h => ?_)
    · refine j_iconst C dX6_part_316 rfl ?_
      obtain ⟨r11, er11, h⟩ := bind_some h
      have e := Option.some.inj h
      subst e
      exact j_rz C dX6_part_317 rfl (retZ_some er11) rfl
    · refine j_iconst C dX6_part_312 rfl ?_
      refine j_goto C 317 dX6_part_313 rfl ?_
      obtain ⟨r12, er12, h⟩ := bind_some h
      have e := Option.some.inj h
      subst e
      exact j_rz C dX6_part_317 rfl (retZ_some er12) rfl
set_option maxRecDepth 100000 in
set_option maxHeartbeats 4000000 in
theorem X6_part_J296_ok {g : Gm} {w : Wd} (C : Cx g w RX6 cX6_part 6 (some .boolean)) {lv : Nat} (hlv : 2 < lv) {N : Nat} {lvs : Nat} (hk : 8 ≤ lvs) (hs : lvs + 0 < lv) {self : Nat → Nat → Int → Mem → Option (Int × Mem)} (hself : ∀ l0 l1 l2 m r, self l0 l1 l2 m = some r → shK l0 = 6 + 10 ∧ CT yX6_sum cX6_sum 6 (some .boolean) lvs 0 0 [vR l0, vR l1, vI l2] 312 m (some (vI r.1)) 312 r.2) {l0 : Nat} {s0 : Int} {m : Mem} {out : (Int × Mem)} (h : X6_part_J296 N self l0 s0 m = some out) : Jd g w 6 (rmL lv 0 0) (Qm g w (some (vI out.1)) out.2) 296 [some (vR l0), none, none, none, none, none] [vI s0] 312 m 0 0 := by
  unfold X6_part_J296 at h
  refine j_istore (ls' := [some (vR _), none, none, none, none, some (vI _)]) C dX6_part_296 (by decide) rfl ?_
  exact X6_part_J298_ok C hlv hk hs hself h
set_option maxRecDepth 100000 in
set_option maxHeartbeats 4000000 in
theorem X6_part_J295_ok {g : Gm} {w : Wd} (C : Cx g w RX6 cX6_part 6 (some .boolean)) {lv : Nat} (hlv : 2 < lv) {N : Nat} {lvs : Nat} (hk : 8 ≤ lvs) (hs : lvs + 0 < lv) {self : Nat → Nat → Int → Mem → Option (Int × Mem)} (hself : ∀ l0 l1 l2 m r, self l0 l1 l2 m = some r → shK l0 = 6 + 10 ∧ CT yX6_sum cX6_sum 6 (some .boolean) lvs 0 0 [vR l0, vR l1, vI l2] 312 m (some (vI r.1)) 312 r.2) {l0 : Nat} {m : Mem} {out : (Int × Mem)} (h : X6_part_J295 N self l0 m = some out) : Jd g w 6 (rmL lv 0 0) (Qm g w (some (vI out.1)) out.2) 295 [some (vR l0), none, none, none, none, none] [] 312 m 0 0 := by
  unfold X6_part_J295 at h
  refine j_iconst C dX6_part_295 rfl ?_
  exact X6_part_J296_ok C hlv hk hs hself h
set_option maxRecDepth 100000 in
set_option maxHeartbeats 4000000 in
theorem X6_part_J285_ok {g : Gm} {w : Wd} (C : Cx g w RX6 cX6_part 6 (some .boolean)) {lv : Nat} (hlv : 2 < lv) {N : Nat} {lvs : Nat} (hk : 8 ≤ lvs) (hs : lvs + 0 < lv) {self : Nat → Nat → Int → Mem → Option (Int × Mem)} (hself : ∀ l0 l1 l2 m r, self l0 l1 l2 m = some r → shK l0 = 6 + 10 ∧ CT yX6_sum cX6_sum 6 (some .boolean) lvs 0 0 [vR l0, vR l1, vI l2] 312 m (some (vI r.1)) 312 r.2) {l0 : Nat} {s0 : Nat} {s1 : Int} {m : Mem} {out : (Int × Mem)} (h : X6_part_J285 N self l0 s0 s1 m = some out) : Jd g w 6 (rmL lv 0 0) (Qm g w (some (vI out.1)) out.2) 285 [some (vR l0), none, none, none, none, none] [vI s1, vR s0] 312 m 0 0 := by
  unfold X6_part_J285 at h
  obtain ⟨p17, ep17, h⟩ := bind_some h
  have qp17 := X7_add_ct ep17
  refine j_cVI C dX6_part_285 vl_X6_202 CF7 rfl qp17.1 qp17.2 (by omega) rfl rfl (Nat.le_of_ble_eq_true rfl) ?_
  refine j_if_eq C 295 dX6_part_288 rfl h (fun c18 h => ?_) (fun c18 h => ?_)
  · exact X6_part_J295_ok C hlv hk hs hself h
  · refine j_iconst C dX6_part_291 rfl ?_
    refine j_goto C 296 dX6_part_292 rfl ?_
    exact X6_part_J296_ok C hlv hk hs hself h
set_option maxRecDepth 100000 in
set_option maxHeartbeats 4000000 in
theorem X6_part_J239_ok {g : Gm} {w : Wd} (C : Cx g w RX6 cX6_part 6 (some .boolean)) {lv : Nat} (hlv : 2 < lv) {N : Nat} {lvs : Nat} (hk : 8 ≤ lvs) (hs : lvs + 0 < lv) {self : Nat → Nat → Int → Mem → Option (Int × Mem)} (hself : ∀ l0 l1 l2 m r, self l0 l1 l2 m = some r → shK l0 = 6 + 10 ∧ CT yX6_sum cX6_sum 6 (some .boolean) lvs 0 0 [vR l0, vR l1, vI l2] 312 m (some (vI r.1)) 312 r.2) {l0 : Nat} {l1 : Nat} {l2 : Int} {l3 : Int} {l4 : Int} {s0 : Int} {m : Mem} {out : (Int × Mem)} (h : X6_part_J239 N self l0 l1 l2 l3 l4 s0 m = some out) : Jd g w 6 (rmL lv 0 0) (Qm g w (some (vI out.1)) out.2) 239 [some (vR l0), some (vR l1), some (vI l2), some (vI l3), some (vI l4), none] [vI s0] 312 m 0 0 := by
  unfold X6_part_J239 at h
  refine j_istore (ls' := [some (vR _), some (vR _), some (vI _), some (vI _), some (vI _), some (vI _)]) C dX6_part_239 (by decide) rfl ?_
  refine j_iload C dX6_part_241 rfl ?_
  refine j_if_eq C 298 dX6_part_243 rfl h (fun c23 h => ?_) (fun c23 h => ?_)
  · refine j_mask [true, false, false, false, false, true] (ls' := [some (vR _), none, none, none, none, some (vI _)]) rfl ?_
    exact X6_part_J298_ok C hlv hk hs hself h
  · refine j_iload C dX6_part_246 rfl ?_
    refine j_if_eq C 295 dX6_part_248 rfl h (fun c22 h => ?_) (fun c22 h => ?_)
    · refine j_mask [true, false, false, false, false, false] (ls' := [some (vR _), none, none, none, none, none]) rfl ?_
      exact X6_part_J295_ok C hlv hk hs hself h
    · refine j_aload_n C dX6_part_251 rfl ?_
      refine j_bipush C dX6_part_252 rfl ?_
      obtain ⟨p15, ep15, h⟩ := bind_some h
      have qp15 := X6_sign_ct ep15
      refine j_cVI C dX6_part_254 vl_X6_86 CF6 rfl qp15.1 qp15.2 (by omega) rfl rfl (Nat.le_of_ble_eq_true rfl) ?_
      refine j_if_eq C 295 dX6_part_257 rfl h (fun c21 h => ?_) (fun c21 h => ?_)
      · refine j_mask [true, false, false, false, false, false] (ls' := [some (vR _), none, none, none, none, none]) rfl ?_
        exact X6_part_J295_ok C hlv hk hs hself h
      · refine j_aload_n C dX6_part_260 rfl ?_
        refine j_aload_n C dX6_part_261 rfl ?_
        refine j_iload_n C dX6_part_262 rfl ?_
        refine j_iconst C dX6_part_263 rfl ?_
        refine j_iadd C dX6_part_264 ?_
        obtain ⟨p16, ep16, h⟩ := bind_some h
        have qp16 := hself _ _ _ _ _ ep16
        refine j_cVI C dX6_part_265 vl_X6_126 CF6 rfl qp16.1 qp16.2 (by omega) rfl rfl (Nat.le_of_ble_eq_true rfl) ?_
        refine j_if_eq C 295 dX6_part_268 rfl h (fun c20 h => ?_) (fun c20 h => ?_)
        · refine j_mask [true, false, false, false, false, false] (ls' := [some (vR _), none, none, none, none, none]) rfl ?_
          exact X6_part_J295_ok C hlv hk hs hself h
        · refine j_aload_n C dX6_part_271 rfl ?_
          refine j_iload_n C dX6_part_272 rfl ?_
          refine j_bipush C dX6_part_273 rfl ?_
          refine j_icmp_ne C 283 dX6_part_275 rfl h (fun c19 h => ?_) (fun c19 h => ?_)
          · refine j_bipush C dX6_part_283 rfl ?_
            refine j_mask [true, false, false, false, false, false] (ls' := [some (vR _), none, none, none, none, none]) rfl ?_
            exact X6_part_J285_ok C hlv hk hs hself h
          · refine j_bipush C dX6_part_278 rfl ?_
            refine j_goto C 285 dX6_part_280 rfl ?_
            refine j_mask [true, false, false, false, false, false] (ls' := [some (vR _), none, none, none, none, none]) rfl ?_
            exact X6_part_J285_ok C hlv hk hs hself h
set_option maxRecDepth 100000 in
set_option maxHeartbeats 4000000 in
theorem X6_part_J238_ok {g : Gm} {w : Wd} (C : Cx g w RX6 cX6_part 6 (some .boolean)) {lv : Nat} (hlv : 2 < lv) {N : Nat} {lvs : Nat} (hk : 8 ≤ lvs) (hs : lvs + 0 < lv) {self : Nat → Nat → Int → Mem → Option (Int × Mem)} (hself : ∀ l0 l1 l2 m r, self l0 l1 l2 m = some r → shK l0 = 6 + 10 ∧ CT yX6_sum cX6_sum 6 (some .boolean) lvs 0 0 [vR l0, vR l1, vI l2] 312 m (some (vI r.1)) 312 r.2) {l0 : Nat} {l1 : Nat} {l2 : Int} {l3 : Int} {l4 : Int} {m : Mem} {out : (Int × Mem)} (h : X6_part_J238 N self l0 l1 l2 l3 l4 m = some out) : Jd g w 6 (rmL lv 0 0) (Qm g w (some (vI out.1)) out.2) 238 [some (vR l0), some (vR l1), some (vI l2), some (vI l3), some (vI l4), none] [] 312 m 0 0 := by
  unfold X6_part_J238 at h
  refine j_iconst C dX6_part_238 rfl ?_
  exact X6_part_J239_ok C hlv hk hs hself h
set_option maxRecDepth 100000 in
set_option maxHeartbeats 4000000 in
theorem X6_part_J172_ok {g : Gm} {w : Wd} (C : Cx g w RX6 cX6_part 6 (some .boolean)) {lv : Nat} (hlv : 2 < lv) {N : Nat} {lvs : Nat} (hk : 8 ≤ lvs) (hs : lvs + 0 < lv) {self : Nat → Nat → Int → Mem → Option (Int × Mem)} (hself : ∀ l0 l1 l2 m r, self l0 l1 l2 m = some r → shK l0 = 6 + 10 ∧ CT yX6_sum cX6_sum 6 (some .boolean) lvs 0 0 [vR l0, vR l1, vI l2] 312 m (some (vI r.1)) 312 r.2) {l0 : Nat} {l1 : Nat} {l2 : Int} {l3 : Int} {l4 : Int} {m : Mem} {out : (Int × Mem)} (h : X6_part_J172 N self l0 l1 l2 l3 l4 m = some out) : Jd g w 6 (rmL lv 0 0) (Qm g w (some (vI out.1)) out.2) 172 [some (vR l0), some (vR l1), some (vI l2), some (vI l3), some (vI l4), none] [] 312 m 0 0 := by
  unfold X6_part_J172 at h
  refine j_aload_n C dX6_part_172 rfl ?_
  refine j_getI C dX6_part_173 CF6 (by decide) fl_X6_22 rfl rfl h (fun t3 h => ?_)
  refine j_iconst C dX6_part_176 rfl ?_
  refine j_icmp_ne C 189 dX6_part_177 rfl h (fun c32 h => ?_) (fun c32 h => ?_)
  · refine j_mask [true, false, false, false, false, false] (ls' := [some (vR _), none, none, none, none, none]) rfl ?_
    exact X6_part_J189_ok C hlv hk hs hself h
  · refine j_aload_n C dX6_part_180 rfl ?_
    refine j_getI C dX6_part_181 CF6 (by decide) fl_X6_28 rfl rfl h (fun t6 h => ?_)
    refine j_bipush C dX6_part_184 rfl ?_
    refine j_icmp_eq C 194 dX6_part_186 rfl h (fun c31 h => ?_) (fun c31 h => ?_)
    · refine j_iload_n C dX6_part_194 rfl ?_
      refine j_bipush C dX6_part_195 rfl ?_
      refine j_icmp_lt C 210 dX6_part_197 rfl h (fun c30 h => ?_) (fun c30 h => ?_)
      · refine j_aload_n C dX6_part_210 rfl ?_
        refine j_aload_n C dX6_part_211 rfl ?_
        refine j_getI C dX6_part_212 CF6 (by decide) fl_X6_18 rfl rfl h (fun t7 h => ?_)
        refine j_iconst C dX6_part_215 rfl ?_
        refine j_iadd C dX6_part_216 ?_
        obtain ⟨p8, ep8, h⟩ := bind_some h
        have qp8 := X6_goTo_ct ep8
        refine j_cVI C dX6_part_217 vl_X6_61 CF6 rfl qp8.1 qp8.2 (by omega) rfl rfl (Nat.le_of_ble_eq_true rfl) ?_
        refine j_if_eq C 238 dX6_part_220 rfl h (fun c26 h => ?_) (fun c26 h => ?_)
        · exact X6_part_J238_ok C hlv hk hs hself h
        · refine j_aload_n C dX6_part_223 rfl ?_
          refine j_aload_n C dX6_part_224 rfl ?_
          refine j_iload_n C dX6_part_225 rfl ?_
          refine j_iconst C dX6_part_226 rfl ?_
          refine j_iadd C dX6_part_227 ?_
          obtain ⟨p24, ep24, h⟩ := bind_some h
          have qp24 := hself _ _ _ _ _ ep24
          refine j_cVI C dX6_part_228 vl_X6_126 CF6 rfl qp24.1 qp24.2 (by omega) rfl rfl (Nat.le_of_ble_eq_true rfl) ?_
          refine j_if_eq C 238 dX6_part_231 rfl h (fun c25 h => ?_) (fun c25 h => ?_)
          · exact X6_part_J238_ok C hlv hk hs hself h
          · refine j_iconst C dX6_part_234 rfl ?_
            refine j_goto C 239 dX6_part_235 rfl ?_
            exact X6_part_J239_ok C hlv hk hs hself h
      · refine j_aload_n C dX6_part_200 rfl ?_
        refine j_iconst C dX6_part_201 rfl ?_
        refine j_aload_n C dX6_part_202 rfl ?_
        refine j_getI C dX6_part_203 CF6 (by decide) fl_X6_25 rfl rfl h (fun t27 h => ?_)
        obtain ⟨p28, ep28, h⟩ := bind_some h
        have qp28 := X6_refuse_ct ep28
        refine j_cVI C dX6_part_206 vl_X6_94 CF6 rfl qp28.1 qp28.2 (by omega) rfl rfl (Nat.le_of_ble_eq_true rfl) ?_
        obtain ⟨r29, er29, h⟩ := bind_some h
        have e := Option.some.inj h
        subst e
        exact j_rz C dX6_part_209 rfl (retZ_some er29) rfl
    · refine j_mask [true, false, false, false, false, false] (ls' := [some (vR _), none, none, none, none, none]) rfl ?_
      exact X6_part_J189_ok C hlv hk hs hself h
set_option maxRecDepth 100000 in
set_option maxHeartbeats 4000000 in
theorem X6_part_J154_ok {g : Gm} {w : Wd} (C : Cx g w RX6 cX6_part 6 (some .boolean)) {lv : Nat} (hlv : 2 < lv) {N : Nat} {lvs : Nat} (hk : 8 ≤ lvs) (hs : lvs + 0 < lv) {self : Nat → Nat → Int → Mem → Option (Int × Mem)} (hself : ∀ l0 l1 l2 m r, self l0 l1 l2 m = some r → shK l0 = 6 + 10 ∧ CT yX6_sum cX6_sum 6 (some .boolean) lvs 0 0 [vR l0, vR l1, vI l2] 312 m (some (vI r.1)) 312 r.2) {l0 : Nat} {l1 : Nat} {l2 : Int} {l3 : Int} {s0 : Int} {m : Mem} {out : (Int × Mem)} (h : X6_part_J154 N self l0 l1 l2 l3 s0 m = some out) : Jd g w 6 (rmL lv 0 0) (Qm g w (some (vI out.1)) out.2) 154 [some (vR l0), some (vR l1), some (vI l2), some (vI l3), none, none] [vI s0] 312 m 0 0 := by
  unfold X6_part_J154 at h
  refine j_istore (ls' := [some (vR _), some (vR _), some (vI _), some (vI _), some (vI _), none]) C dX6_part_154 (by decide) rfl ?_
  refine j_iload C dX6_part_156 rfl ?_
  refine j_if_eq C 172 dX6_part_158 rfl h (fun c35 h => ?_) (fun c35 h => ?_)
  · exact X6_part_J172_ok C hlv hk hs hself h
  · refine j_aload_n C dX6_part_161 rfl ?_
    refine j_aload_n C dX6_part_162 rfl ?_
    refine j_getI C dX6_part_163 CF6 (by decide) fl_X6_18 rfl rfl h (fun t33 h => ?_)
    refine j_iconst C dX6_part_166 rfl ?_
    refine j_iadd C dX6_part_167 ?_
    obtain ⟨p34, ep34, h⟩ := bind_some h
    have qp34 := X6_goTo_ct ep34
    refine j_cVI C dX6_part_168 vl_X6_61 CF6 rfl qp34.1 qp34.2 (by omega) rfl rfl (Nat.le_of_ble_eq_true rfl) ?_
    refine j_pop C dX6_part_171 rfl ?_
    exact X6_part_J172_ok C hlv hk hs hself h
set_option maxRecDepth 100000 in
set_option maxHeartbeats 4000000 in
theorem X6_part_J149_ok {g : Gm} {w : Wd} (C : Cx g w RX6 cX6_part 6 (some .boolean)) {lv : Nat} (hlv : 2 < lv) {N : Nat} {lvs : Nat} (hk : 8 ≤ lvs) (hs : lvs + 0 < lv) {self : Nat → Nat → Int → Mem → Option (Int × Mem)} (hself : ∀ l0 l1 l2 m r, self l0 l1 l2 m = some r → shK l0 = 6 + 10 ∧ CT yX6_sum cX6_sum 6 (some .boolean) lvs 0 0 [vR l0, vR l1, vI l2] 312 m (some (vI r.1)) 312 r.2) {l0 : Nat} {l1 : Nat} {l2 : Int} {l3 : Int} {m : Mem} {out : (Int × Mem)} (h : X6_part_J149 N self l0 l1 l2 l3 m = some out) : Jd g w 6 (rmL lv 0 0) (Qm g w (some (vI out.1)) out.2) 149 [some (vR l0), some (vR l1), some (vI l2), some (vI l3), none, none] [] 312 m 0 0 := by
  unfold X6_part_J149 at h
  refine j_iconst C dX6_part_149 rfl ?_
  refine j_goto C 154 dX6_part_150 rfl ?_
  exact X6_part_J154_ok C hlv hk hs hself h
set_option maxRecDepth 100000 in
set_option maxHeartbeats 4000000 in
theorem X6_part_J137_ok {g : Gm} {w : Wd} (C : Cx g w RX6 cX6_part 6 (some .boolean)) {lv : Nat} (hlv : 2 < lv) {N : Nat} {lvs : Nat} (hk : 8 ≤ lvs) (hs : lvs + 0 < lv) {self : Nat → Nat → Int → Mem → Option (Int × Mem)} (hself : ∀ l0 l1 l2 m r, self l0 l1 l2 m = some r → shK l0 = 6 + 10 ∧ CT yX6_sum cX6_sum 6 (some .boolean) lvs 0 0 [vR l0, vR l1, vI l2] 312 m (some (vI r.1)) 312 r.2) {l0 : Nat} {l1 : Nat} {l2 : Int} {l3 : Int} {m : Mem} {out : (Int × Mem)} (h : X6_part_J137 N self l0 l1 l2 l3 m = some out) : Jd g w 6 (rmL lv 0 0) (Qm g w (some (vI out.1)) out.2) 137 [some (vR l0), some (vR l1), some (vI l2), some (vI l3), none, none] [] 312 m 0 0 := by
  unfold X6_part_J137 at h
  refine j_iload_n C dX6_part_137 rfl ?_
  refine j_bipush C dX6_part_138 rfl ?_
  refine j_icmp_eq C 149 dX6_part_140 rfl h (fun c37 h => ?_) (fun c37 h => ?_)
  · exact X6_part_J149_ok C hlv hk hs hself h
  · refine j_iload_n C dX6_part_143 rfl ?_
    refine j_bipush C dX6_part_144 rfl ?_
    refine j_icmp_ne C 153 dX6_part_146 rfl h (fun c36 h => ?_) (fun c36 h => ?_)
    · refine j_iconst C dX6_part_153 rfl ?_
      exact X6_part_J154_ok C hlv hk hs hself h
    · exact X6_part_J149_ok C hlv hk hs hself h
set_option maxRecDepth 100000 in
set_option maxHeartbeats 4000000 in
theorem X6_part_J16_ok {g : Gm} {w : Wd} (C : Cx g w RX6 cX6_part 6 (some .boolean)) {lv : Nat} (hlv : 2 < lv) {N : Nat} {lvs : Nat} (hk : 8 ≤ lvs) (hs : lvs + 0 < lv) {self : Nat → Nat → Int → Mem → Option (Int × Mem)} (hself : ∀ l0 l1 l2 m r, self l0 l1 l2 m = some r → shK l0 = 6 + 10 ∧ CT yX6_sum cX6_sum 6 (some .boolean) lvs 0 0 [vR l0, vR l1, vI l2] 312 m (some (vI r.1)) 312 r.2) {l0 : Nat} {l1 : Nat} {l2 : Int} {s0 : Int} {m : Mem} {out : (Int × Mem)} (h : X6_part_J16 N self l0 l1 l2 s0 m = some out) : Jd g w 6 (rmL lv 0 0) (Qm g w (some (vI out.1)) out.2) 16 [some (vR l0), some (vR l1), some (vI l2), none, none, none] [vI s0] 312 m 0 0 := by
  unfold X6_part_J16 at h
  refine j_istore_n (ls' := [some (vR _), some (vR _), some (vI _), some (vI _), none, none]) C dX6_part_16 (by decide) rfl ?_
  refine j_aload_n C dX6_part_17 rfl ?_
  refine j_getI C dX6_part_18 CF6 (by decide) fl_X6_22 rfl rfl h (fun t2 h => ?_)
  refine j_iconst C dX6_part_21 rfl ?_
  refine j_icmp_ne C 55 dX6_part_22 rfl h (fun c68 h => ?_) (fun c68 h => ?_)
  · refine j_iload_n C dX6_part_55 rfl ?_
    refine j_bipush C dX6_part_56 rfl ?_
    refine j_icmp_ne C 92 dX6_part_58 rfl h (fun c58 h => ?_) (fun c58 h => ?_)
    · refine j_iload_n C dX6_part_92 rfl ?_
      refine j_bipush C dX6_part_93 rfl ?_
      refine j_icmp_lt C 137 dX6_part_95 rfl h (fun c48 h => ?_) (fun c48 h => ?_)
      · exact X6_part_J137_ok C hlv hk hs hself h
      · refine j_iload_n C dX6_part_98 rfl ?_
        refine j_bipush C dX6_part_99 rfl ?_
        refine j_icmp_gt C 137 dX6_part_101 rfl h (fun c47 h => ?_) (fun c47 h => ?_)
        · exact X6_part_J137_ok C hlv hk hs hself h
        · refine j_aload_n C dX6_part_104 rfl ?_
          refine j_iload_n C dX6_part_105 rfl ?_
          refine j_bipush C dX6_part_106 rfl ?_
          refine j_isub C dX6_part_108 ?_
          obtain ⟨p38, ep38, h⟩ := bind_some h
          have qp38 := X7_codeOf_ct ep38
          refine j_cSI C dX6_part_109 sl_X6_208 qp38 (by omega) rfl rfl (Nat.le_of_ble_eq_true rfl) ?_
          obtain ⟨p39, ep39, h⟩ := bind_some h
          have qp39 := X7_add_ct ep39
          refine j_cVI C dX6_part_112 vl_X6_202 CF7 rfl qp39.1 qp39.2 (by omega) rfl rfl (Nat.le_of_ble_eq_true rfl) ?_
          refine j_if_eq C 135 dX6_part_115 rfl h (fun c46 h => ?_) (fun c46 h => ?_)
          · refine j_iconst C dX6_part_135 rfl ?_
            obtain ⟨r40, er40, h⟩ := bind_some h
            have e := Option.some.inj h
            subst e
            exact j_rz C dX6_part_136 rfl (retZ_some er40) rfl
          · refine j_aload_n C dX6_part_118 rfl ?_
            refine j_aload_n C dX6_part_119 rfl ?_
            refine j_getI C dX6_part_120 CF6 (by decide) fl_X6_18 rfl rfl h (fun t41 h => ?_)
            refine j_iconst C dX6_part_123 rfl ?_
            refine j_iadd C dX6_part_124 ?_
            obtain ⟨p42, ep42, h⟩ := bind_some h
            have qp42 := X6_goTo_ct ep42
            refine j_cVI C dX6_part_125 vl_X6_61 CF6 rfl qp42.1 qp42.2 (by omega) rfl rfl (Nat.le_of_ble_eq_true rfl) ?_
            refine j_if_eq C 135 dX6_part_128 rfl h (fun c45 h => ?_) (fun c45 h => ?_)
            · refine j_iconst C dX6_part_135 rfl ?_
              obtain ⟨r43, er43, h⟩ := bind_some h
              have e := Option.some.inj h
              subst e
              exact j_rz C dX6_part_136 rfl (retZ_some er43) rfl
            · refine j_iconst C dX6_part_131 rfl ?_
              refine j_goto C 136 dX6_part_132 rfl ?_
              obtain ⟨r44, er44, h⟩ := bind_some h
              have e := Option.some.inj h
              subst e
              exact j_rz C dX6_part_136 rfl (retZ_some er44) rfl
    · refine j_aload_n C dX6_part_61 rfl ?_
      refine j_bipush C dX6_part_62 rfl ?_
      obtain ⟨p49, ep49, h⟩ := bind_some h
      have qp49 := X7_codeOf_ct ep49
      refine j_cSI C dX6_part_64 sl_X6_208 qp49 (by omega) rfl rfl (Nat.le_of_ble_eq_true rfl) ?_
      obtain ⟨p50, ep50, h⟩ := bind_some h
      have qp50 := X7_add_ct ep50
      refine j_cVI C dX6_part_67 vl_X6_202 CF7 rfl qp50.1 qp50.2 (by omega) rfl rfl (Nat.le_of_ble_eq_true rfl) ?_
      refine j_if_eq C 90 dX6_part_70 rfl h (fun c57 h => ?_) (fun c57 h => ?_)
      · refine j_iconst C dX6_part_90 rfl ?_
        obtain ⟨r51, er51, h⟩ := bind_some h
        have e := Option.some.inj h
        subst e
        exact j_rz C dX6_part_91 rfl (retZ_some er51) rfl
      · refine j_aload_n C dX6_part_73 rfl ?_
        refine j_aload_n C dX6_part_74 rfl ?_
        refine j_getI C dX6_part_75 CF6 (by decide) fl_X6_18 rfl rfl h (fun t52 h => ?_)
        refine j_iconst C dX6_part_78 rfl ?_
        refine j_iadd C dX6_part_79 ?_
        obtain ⟨p53, ep53, h⟩ := bind_some h
        have qp53 := X6_goTo_ct ep53
        refine j_cVI C dX6_part_80 vl_X6_61 CF6 rfl qp53.1 qp53.2 (by omega) rfl rfl (Nat.le_of_ble_eq_true rfl) ?_
        refine j_if_eq C 90 dX6_part_83 rfl h (fun c56 h => ?_) (fun c56 h => ?_)
        · refine j_iconst C dX6_part_90 rfl ?_
          obtain ⟨r54, er54, h⟩ := bind_some h
          have e := Option.some.inj h
          subst e
          exact j_rz C dX6_part_91 rfl (retZ_some er54) rfl
        · refine j_iconst C dX6_part_86 rfl ?_
          refine j_goto C 91 dX6_part_87 rfl ?_
          obtain ⟨r55, er55, h⟩ := bind_some h
          have e := Option.some.inj h
          subst e
          exact j_rz C dX6_part_91 rfl (retZ_some er55) rfl
  · refine j_aload_n C dX6_part_25 rfl ?_
    refine j_aload_n C dX6_part_26 rfl ?_
    refine j_getI C dX6_part_27 CF6 (by decide) fl_X6_28 rfl rfl h (fun t59 h => ?_)
    obtain ⟨p60, ep60, h⟩ := bind_some h
    have qp60 := X7_add_ct ep60
    refine j_cVI C dX6_part_30 vl_X6_202 CF7 rfl qp60.1 qp60.2 (by omega) rfl rfl (Nat.le_of_ble_eq_true rfl) ?_
    refine j_if_eq C 53 dX6_part_33 rfl h (fun c67 h => ?_) (fun c67 h => ?_)
    · refine j_iconst C dX6_part_53 rfl ?_
      obtain ⟨r61, er61, h⟩ := bind_some h
      have e := Option.some.inj h
      subst e
      exact j_rz C dX6_part_54 rfl (retZ_some er61) rfl
    · refine j_aload_n C dX6_part_36 rfl ?_
      refine j_aload_n C dX6_part_37 rfl ?_
      refine j_getI C dX6_part_38 CF6 (by decide) fl_X6_18 rfl rfl h (fun t62 h => ?_)
      refine j_iconst C dX6_part_41 rfl ?_
      refine j_iadd C dX6_part_42 ?_
      obtain ⟨p63, ep63, h⟩ := bind_some h
      have qp63 := X6_goTo_ct ep63
      refine j_cVI C dX6_part_43 vl_X6_61 CF6 rfl qp63.1 qp63.2 (by omega) rfl rfl (Nat.le_of_ble_eq_true rfl) ?_
      refine j_if_eq C 53 dX6_part_46 rfl h (fun c66 h => ?_) (fun c66 h => ?_)
      · refine j_iconst C dX6_part_53 rfl ?_
        obtain ⟨r64, er64, h⟩ := bind_some h
        have e := Option.some.inj h
        subst e
        exact j_rz C dX6_part_54 rfl (retZ_some er64) rfl
      · refine j_iconst C dX6_part_49 rfl ?_
        refine j_goto C 54 dX6_part_50 rfl ?_
        obtain ⟨r65, er65, h⟩ := bind_some h
        have e := Option.some.inj h
        subst e
        exact j_rz C dX6_part_54 rfl (retZ_some er65) rfl
set_option maxRecDepth 100000 in
set_option maxHeartbeats 4000000 in
theorem X6_part_ct {N : Nat} {lv : Nat} (hlv : 2 < lv) {lvs : Nat} (hk : 8 ≤ lvs) (hs : lvs + 0 < lv) {self : Nat → Nat → Int → Mem → Option (Int × Mem)} (hself : ∀ l0 l1 l2 m r, self l0 l1 l2 m = some r → shK l0 = 6 + 10 ∧ CT yX6_sum cX6_sum 6 (some .boolean) lvs 0 0 [vR l0, vR l1, vI l2] 312 m (some (vI r.1)) 312 r.2) {l0 : Nat} {l1 : Nat} {l2 : Int} {m : Mem} {out : (Int × Mem)} (h : X6_part N self l0 l1 l2 m = some out) : shK l0 = 6 + 10 ∧ CT yX6_part cX6_part 6 (some .boolean) lv 0 0 [vR l0, vR l1, vI l2] 312 m (some (vI out.1)) 312 out.2 := by
  unfold X6_part at h
  obtain ⟨hK, h⟩ := ite_some h
  refine ⟨hK, CT.of (by decide +kernel) rfl (Nat.le_of_ble_eq_true rfl) (ls := [some (vR l0), some (vR l1), some (vI l2), none, none, none]) rfl fun g w C _ => ?_⟩
  refine j_aload_n C dX6_part_0 rfl ?_
  refine j_getI C dX6_part_1 CF6 (by decide) fl_X6_22 rfl rfl h (fun t1 h => ?_)
  refine j_iconst C dX6_part_4 rfl ?_
  refine j_icmp_ne C 15 dX6_part_5 rfl h (fun c70 h => ?_) (fun c70 h => ?_)
  · refine j_iconst C dX6_part_15 rfl ?_
    exact X6_part_J16_ok C hlv hk hs hself h
  · refine j_aload_n C dX6_part_8 rfl ?_
    refine j_getI C dX6_part_9 CF6 (by decide) fl_X6_28 rfl rfl h (fun t69 h => ?_)
    refine j_goto C 16 dX6_part_12 rfl ?_
    exact X6_part_J16_ok C hlv hk hs hself h
