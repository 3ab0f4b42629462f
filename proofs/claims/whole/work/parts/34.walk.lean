theorem dX6_product_0 : decode cX6_product 0 = .ok (.aload_n 0, 1) := by decide +kernel
theorem dX6_product_1 : decode cX6_product 1 = .ok (.aload_n 1, 1) := by decide +kernel
theorem dX6_product_2 : decode cX6_product 2 = .ok (.iload_n 2, 1) := by decide +kernel
theorem dX6_product_3 : decode cX6_product 3 = .ok (.invokevirtual 205, 3) := by decide +kernel
theorem dX6_product_6 : decode cX6_product 6 = .ok (.istore_n 3, 1) := by decide +kernel
theorem dX6_product_7 : decode cX6_product 7 = .ok (.iconst 0, 1) := by decide +kernel
theorem dX6_product_8 : decode cX6_product 8 = .ok (.istore 4, 2) := by decide +kernel
theorem dX6_product_10 : decode cX6_product 10 = .ok (.iload 4, 2) := by decide +kernel
theorem dX6_product_12 : decode cX6_product 12 = .ok (.sipush 1600, 3) := by decide +kernel
theorem dX6_product_15 : decode cX6_product 15 = .ok (.if_icmp .ge 70, 3) := by decide +kernel
theorem dX6_product_18 : decode cX6_product 18 = .ok (.iload_n 3, 1) := by decide +kernel
theorem dX6_product_19 : decode cX6_product 19 = .ok (.ifCond .eq 66, 3) := by decide +kernel
theorem dX6_product_22 : decode cX6_product 22 = .ok (.aload_n 0, 1) := by decide +kernel
theorem dX6_product_23 : decode cX6_product 23 = .ok (.bipush 42, 2) := by decide +kernel
theorem dX6_product_25 : decode cX6_product 25 = .ok (.bipush 47, 2) := by decide +kernel
theorem dX6_product_27 : decode cX6_product 27 = .ok (.bipush 37, 2) := by decide +kernel
theorem dX6_product_29 : decode cX6_product 29 = .ok (.invokevirtual 198, 3) := by decide +kernel
theorem dX6_product_32 : decode cX6_product 32 = .ok (.ifCond .eq 53, 3) := by decide +kernel
theorem dX6_product_35 : decode cX6_product 35 = .ok (.aload_n 0, 1) := by decide +kernel
theorem dX6_product_36 : decode cX6_product 36 = .ok (.getfield 28, 3) := by decide +kernel
theorem dX6_product_39 : decode cX6_product 39 = .ok (.istore 5, 2) := by decide +kernel
theorem dX6_product_41 : decode cX6_product 41 = .ok (.aload_n 0, 1) := by decide +kernel
theorem dX6_product_42 : decode cX6_product 42 = .ok (.aload_n 0, 1) := by decide +kernel
theorem dX6_product_43 : decode cX6_product 43 = .ok (.getfield 18, 3) := by decide +kernel
theorem dX6_product_46 : decode cX6_product 46 = .ok (.iconst 1, 1) := by decide +kernel
theorem dX6_product_47 : decode cX6_product 47 = .ok (.iadd, 1) := by decide +kernel
theorem dX6_product_48 : decode cX6_product 48 = .ok (.invokevirtual 61, 3) := by decide +kernel
theorem dX6_product_51 : decode cX6_product 51 = .ok (.ifCond .eq 26, 3) := by decide +kernel
theorem dX6_product_54 : decode cX6_product 54 = .ok (.aload_n 0, 1) := by decide +kernel
theorem dX6_product_55 : decode cX6_product 55 = .ok (.aload_n 1, 1) := by decide +kernel
theorem dX6_product_56 : decode cX6_product 56 = .ok (.iload_n 2, 1) := by decide +kernel
theorem dX6_product_57 : decode cX6_product 57 = .ok (.invokevirtual 205, 3) := by decide +kernel
theorem dX6_product_60 : decode cX6_product 60 = .ok (.ifCond .eq 17, 3) := by decide +kernel
theorem dX6_product_63 : decode cX6_product 63 = .ok (.aload_n 1, 1) := by decide +kernel
theorem dX6_product_64 : decode cX6_product 64 = .ok (.iload 5, 2) := by decide +kernel
theorem dX6_product_66 : decode cX6_product 66 = .ok (.ineg, 1) := by decide +kernel
theorem dX6_product_67 : decode cX6_product 67 = .ok (.invokevirtual 202, 3) := by decide +kernel
theorem dX6_product_70 : decode cX6_product 70 = .ok (.ifCond .eq 7, 3) := by decide +kernel
theorem dX6_product_73 : decode cX6_product 73 = .ok (.iconst 1, 1) := by decide +kernel
theorem dX6_product_74 : decode cX6_product 74 = .ok (.goto 4, 3) := by decide +kernel
theorem dX6_product_77 : decode cX6_product 77 = .ok (.iconst 0, 1) := by decide +kernel
theorem dX6_product_78 : decode cX6_product 78 = .ok (.istore_n 3, 1) := by decide +kernel
theorem dX6_product_79 : decode cX6_product 79 = .ok (.iinc 4 1, 3) := by decide +kernel
theorem dX6_product_82 : decode cX6_product 82 = .ok (.goto (-72), 3) := by decide +kernel
theorem dX6_product_85 : decode cX6_product 85 = .ok (.iload_n 3, 1) := by decide +kernel
theorem dX6_product_86 : decode cX6_product 86 = .ok (.ireturn, 1) := by decide +kernel
set_option maxRecDepth 100000 in
set_option maxHeartbeats 4000000 in
theorem X6_product_J78_ok {g : Gm} {w : Wd} (C : Cx g w RX6 cX6_product 6 (some .boolean)) {lv : Nat} (hlv : 1 < lv) {N : Nat} {lvs : Nat} (hk : 8 ≤ lvs) (hs : lvs + 1 < lv) {self : Nat → Nat → Int → Mem → Option (Int × Mem)} (hself : ∀ l0 l1 l2 m r, self l0 l1 l2 m = some r → shK l0 = 6 + 10 ∧ CT yX6_sum cX6_sum 6 (some .boolean) lvs 0 0 [vR l0, vR l1, vI l2] 312 m (some (vI r.1)) 312 r.2) {r10 : Nat → Nat → Int → Int → Int → Mem → Option (Int × Mem) } {l0 : Nat} {l1 : Nat} {l2 : Int} {l4 : Int} {s0 : Int} {m : Mem} {out : (Int × Mem)} (hr10 : ∀ l0 l1 l2 l3 l4 m, r10 l0 l1 l2 l3 l4 m = some out → Jd g w 6 (rmL lv 0 0) (Qm g w (some (vI out.1)) out.2) 10 [some (vR l0), some (vR l1), some (vI l2), some (vI l3), some (vI l4), none] [] 312 m 0 0) (h : X6_product_J78 N self r10 l0 l1 l2 l4 s0 m = some out) : Jd g w 6 (rmL lv 0 0) (Qm g w (some (vI out.1)) out.2) 78 [some (vR l0), some (vR l1), some (vI l2), none, some (vI l4), none] [vI s0] 312 m 0 0 := by
  unfold X6_product_J78 at h
  refine j_istore_n (ls' := [some (vR _), some (vR _), some (vI _), some (vI _), some (vI _), none]) C dX6_product_78 (by decide) rfl ?_
  refine j_iinc (ls' := [some (vR _), some (vR _), some (vI _), some (vI _), some (vI _), none]) C dX6_product_79 rfl (by decide) rfl ?_
  refine j_goto C 10 dX6_product_82 rfl ?_
  exact hr10 _ _ _ _ _ _ h
set_option maxRecDepth 100000 in
set_option maxHeartbeats 4000000 in
theorem X6_product_J77_ok {g : Gm} {w : Wd} (C : Cx g w RX6 cX6_product 6 (some .boolean)) {lv : Nat} (hlv : 1 < lv) {N : Nat} {lvs : Nat} (hk : 8 ≤ lvs) (hs : lvs + 1 < lv) {self : Nat → Nat → Int → Mem → Option (Int × Mem)} (hself : ∀ l0 l1 l2 m r, self l0 l1 l2 m = some r → shK l0 = 6 + 10 ∧ CT yX6_sum cX6_sum 6 (some .boolean) lvs 0 0 [vR l0, vR l1, vI l2] 312 m (some (vI r.1)) 312 r.2) {r10 : Nat → Nat → Int → Int → Int → Mem → Option (Int × Mem) } {l0 : Nat} {l1 : Nat} {l2 : Int} {l4 : Int} {m : Mem} {out : (Int × Mem)} (hr10 : ∀ l0 l1 l2 l3 l4 m, r10 l0 l1 l2 l3 l4 m = some out → Jd g w 6 (rmL lv 0 0) (Qm g w (some (vI out.1)) out.2) 10 [some (vR l0), some (vR l1), some (vI l2), some (vI l3), some (vI l4), none] [] 312 m 0 0) (h : X6_product_J77 N self r10 l0 l1 l2 l4 m = some out) : Jd g w 6 (rmL lv 0 0) (Qm g w (some (vI out.1)) out.2) 77 [some (vR l0), some (vR l1), some (vI l2), none, some (vI l4), none] [] 312 m 0 0 := by
  unfold X6_product_J77 at h
  refine j_iconst C dX6_product_77 rfl ?_
  exact X6_product_J78_ok C hlv hk hs hself hr10 h
set_option maxRecDepth 100000 in
set_option maxHeartbeats 4000000 in
theorem X6_product_L10_bok {g : Gm} {w : Wd} (C : Cx g w RX6 cX6_product 6 (some .boolean)) {lv : Nat} (hlv : 1 < lv) {N : Nat} {lvs : Nat} (hk : 8 ≤ lvs) (hs : lvs + 1 < lv) {self : Nat → Nat → Int → Mem → Option (Int × Mem)} (hself : ∀ l0 l1 l2 m r, self l0 l1 l2 m = some r → shK l0 = 6 + 10 ∧ CT yX6_sum cX6_sum 6 (some .boolean) lvs 0 0 [vR l0, vR l1, vI l2] 312 m (some (vI r.1)) 312 r.2) {r10 : Nat → Nat → Int → Int → Int → Mem → Option (Int × Mem)} {l0 : Nat} {l1 : Nat} {l2 : Int} {l3 : Int} {l4 : Int} {m : Mem} {out : (Int × Mem)} (hr10 : ∀ l0 l1 l2 l3 l4 m, r10 l0 l1 l2 l3 l4 m = some out → Jd g w 6 (rmL lv 0 0) (Qm g w (some (vI out.1)) out.2) 10 [some (vR l0), some (vR l1), some (vI l2), some (vI l3), some (vI l4), none] [] 312 m 0 0) (h : X6_product_L10_b N self r10 l0 l1 l2 l3 l4 m = some out) : Jd g w 6 (rmL lv 0 0) (Qm g w (some (vI out.1)) out.2) 10 [some (vR l0), some (vR l1), some (vI l2), some (vI l3), some (vI l4), none] [] 312 m 0 0 := by
  unfold X6_product_L10_b at h
  refine j_iload C dX6_product_10 rfl ?_
  refine j_sipush C dX6_product_12 rfl ?_
  refine j_icmp_ge C 85 dX6_product_15 rfl h (fun c16 h => ?_) (fun c16 h => ?_)
  · refine j_iload_n C dX6_product_85 rfl ?_
    obtain ⟨r2, er2, h⟩ := bind_some h
    have e := Option.some.inj h
    subst e
    exact j_rz C dX6_product_86 rfl (retZ_some er2) rfl
  · refine j_iload_n C dX6_product_18 rfl ?_
    refine j_if_eq C 85 dX6_product_19 rfl h (fun c15 h => ?_) (fun c15 h => ?_)
    · refine j_iload_n C dX6_product_85 rfl ?_
      obtain ⟨r3, er3, h⟩ := bind_some h
      have e := Option.some.inj h
      subst e
      exact j_rz C dX6_product_86 rfl (retZ_some er3) rfl
    · refine j_aload_n C dX6_product_22 rfl ?_
      refine j_bipush C dX6_product_23 rfl ?_
      refine j_bipush C dX6_product_25 rfl ?_
      refine j_bipush C dX6_product_27 rfl ?_
      obtain ⟨p4, ep4, h⟩ := bind_some h
      have qp4 := X6_isSign_ct ep4
      refine j_cVI C dX6_product_29 vl_X6_198 CF6 rfl qp4.1 qp4.2 (by omega) rfl rfl (Nat.le_of_ble_eq_true rfl) ?_
      refine j_if_eq C 85 dX6_product_32 rfl h (fun c14 h => ?_) (fun c14 h => ?_)
      · refine j_iload_n C dX6_product_85 rfl ?_
        obtain ⟨r5, er5, h⟩ := bind_some h
        have e := Option.some.inj h
        subst e
        exact j_rz C dX6_product_86 rfl (retZ_some er5) rfl
      · refine j_aload_n C dX6_product_35 rfl ?_
        refine j_getI C dX6_product_36 CF6 (by decide) fl_X6_28 rfl rfl h (fun t6 h => ?_)
        refine j_istore (ls' := [some (vR _), some (vR _), some (vI _), some (vI _), some (vI _), some (vI _)]) C dX6_product_39 (by decide) rfl ?_
        refine j_aload_n C dX6_product_41 rfl ?_
        refine j_aload_n C dX6_product_42 rfl ?_
        refine j_getI C dX6_product_43 CF6 (by decide) fl_X6_18 rfl rfl h (fun t7 h => ?_)
        refine j_iconst C dX6_product_46 rfl ?_
        refine j_iadd C dX6_product_47 ?_
        obtain ⟨p8, ep8, h⟩ := bind_some h
        have qp8 := X6_goTo_ct ep8
        refine j_cVI C dX6_product_48 vl_X6_61 CF6 rfl qp8.1 qp8.2 (by omega) rfl rfl (Nat.le_of_ble_eq_true rfl) ?_
        refine j_if_eq C 77 dX6_product_51 rfl h (fun c13 h => ?_) (fun c13 h => ?_)
        · refine j_mask [true, true, true, false, true, false] (ls' := [some (vR _), some (vR _), some (vI _), none, some (vI _), none]) rfl ?_
          exact X6_product_J77_ok C hlv hk hs hself hr10 h
        · refine j_aload_n C dX6_product_54 rfl ?_
          refine j_aload_n C dX6_product_55 rfl ?_
          refine j_iload_n C dX6_product_56 rfl ?_
          obtain ⟨p9, ep9, h⟩ := bind_some h
          have qp9 := X6_part_ct (lv := lvs + 1) (by omega) hk (by omega) hself ep9
          refine j_cVI C dX6_product_57 vl_X6_205 CF6 rfl qp9.1 qp9.2 (by omega) rfl rfl (Nat.le_of_ble_eq_true rfl) ?_
          refine j_if_eq C 77 dX6_product_60 rfl h (fun c12 h => ?_) (fun c12 h => ?_)
          · refine j_mask [true, true, true, false, true, false] (ls' := [some (vR _), some (vR _), some (vI _), none, some (vI _), none]) rfl ?_
            exact X6_product_J77_ok C hlv hk hs hself hr10 h
          · refine j_aload_n C dX6_product_63 rfl ?_
            refine j_iload C dX6_product_64 rfl ?_
            refine j_ineg C dX6_product_66 ?_
            obtain ⟨p10, ep10, h⟩ := bind_some h
            have qp10 := X7_add_ct ep10
            refine j_cVI C dX6_product_67 vl_X6_202 CF7 rfl qp10.1 qp10.2 (by omega) rfl rfl (Nat.le_of_ble_eq_true rfl) ?_
            refine j_if_eq C 77 dX6_product_70 rfl h (fun c11 h => ?_) (fun c11 h => ?_)
            · refine j_mask [true, true, true, false, true, false] (ls' := [some (vR _), some (vR _), some (vI _), none, some (vI _), none]) rfl ?_
              exact X6_product_J77_ok C hlv hk hs hself hr10 h
            · refine j_iconst C dX6_product_73 rfl ?_
              refine j_goto C 78 dX6_product_74 rfl ?_
              refine j_mask [true, true, true, false, true, false] (ls' := [some (vR _), some (vR _), some (vI _), none, some (vI _), none]) rfl ?_
              exact X6_product_J78_ok C hlv hk hs hself hr10 h
set_option maxRecDepth 100000 in
set_option maxHeartbeats 4000000 in
theorem X6_product_L10_ok {g : Gm} {w : Wd} (C : Cx g w RX6 cX6_product 6 (some .boolean)) {lv : Nat} (hlv : 1 < lv) {N : Nat} {lvs : Nat} (hk : 8 ≤ lvs) (hs : lvs + 1 < lv) {self : Nat → Nat → Int → Mem → Option (Int × Mem)} (hself : ∀ l0 l1 l2 m r, self l0 l1 l2 m = some r → shK l0 = 6 + 10 ∧ CT yX6_sum cX6_sum 6 (some .boolean) lvs 0 0 [vR l0, vR l1, vI l2] 312 m (some (vI r.1)) 312 r.2) {out : (Int × Mem)} (f : Nat) : ∀ {l0 : Nat} {l1 : Nat} {l2 : Int} {l3 : Int} {l4 : Int} {m : Mem}, X6_product_L10 N self f l0 l1 l2 l3 l4 m = some out → Jd g w 6 (rmL lv 0 0) (Qm g w (some (vI out.1)) out.2) 10 [some (vR l0), some (vR l1), some (vI l2), some (vI l3), some (vI l4), none] [] 312 m 0 0 := by
  induction f with
  | zero => intro l0 l1 l2 l3 l4 m h; exact none_ne (α := (Int × Mem)) h
  | succ f ih => intro l0 l1 l2 l3 l4 m h; exact X6_product_L10_bok C hlv hk hs hself (fun l0 l1 l2 l3 l4 m h => ih h) h
set_option maxRecDepth 100000 in
set_option maxHeartbeats 4000000 in
theorem X6_product_ct {N : Nat} {lv : Nat} (hlv : 1 < lv) {lvs : Nat} (hk : 8 ≤ lvs) (hs : lvs + 1 < lv) {self : Nat → Nat → Int → Mem → Option (Int × Mem)} (hself : ∀ l0 l1 l2 m r, self l0 l1 l2 m = some r → shK l0 = 6 + 10 ∧ CT yX6_sum cX6_sum 6 (some .boolean) lvs 0 0 [vR l0, vR l1, vI l2] 312 m (some (vI r.1)) 312 r.2) {l0 : Nat} {l1 : Nat} {l2 : Int} {m : Mem} {out : (Int × Mem)} (h : X6_product N self l0 l1 l2 m = some out) : shK l0 = 6 + 10 ∧ CT yX6_product cX6_product 6 (some .boolean) lv 0 0 [vR l0, vR l1, vI l2] 312 m (some (vI out.1)) 312 out.2 := by
  unfold X6_product at h
  obtain ⟨hK, h⟩ := ite_some h
  refine ⟨hK, CT.of (by decide +kernel) rfl (Nat.le_of_ble_eq_true rfl) (ls := [some (vR l0), some (vR l1), some (vI l2), none, none, none]) rfl fun g w C _ => ?_⟩
  refine j_aload_n C dX6_product_0 rfl ?_
  refine j_aload_n C dX6_product_1 rfl ?_
  refine j_iload_n C dX6_product_2 rfl ?_
  obtain ⟨p1, ep1, h⟩ := bind_some h
  have qp1 := X6_part_ct (lv := lvs + 1) (by omega) hk (by omega) hself ep1
  refine j_cVI C dX6_product_3 vl_X6_205 CF6 rfl qp1.1 qp1.2 (by omega) rfl rfl (Nat.le_of_ble_eq_true rfl) ?_
  refine j_istore_n (ls' := [some (vR _), some (vR _), some (vI _), some (vI _), none, none]) C dX6_product_6 (by decide) rfl ?_
  refine j_iconst C dX6_product_7 rfl ?_
  refine j_istore (ls' := [some (vR _), some (vR _), some (vI _), some (vI _), some (vI _), none]) C dX6_product_8 (by decide) rfl ?_
  exact X6_product_L10_ok C hlv hk hs hself N h
theorem dX6_sum_0 : decode cX6_sum 0 = .ok (.aload_n 0, 1) := by decide +kernel
theorem dX6_sum_1 : decode cX6_sum 1 = .ok (.aload_n 1, 1) := by decide +kernel
theorem dX6_sum_2 : decode cX6_sum 2 = .ok (.iload_n 2, 1) := by decide +kernel
theorem dX6_sum_3 : decode cX6_sum 3 = .ok (.invokevirtual 195, 3) := by decide +kernel
theorem dX6_sum_6 : decode cX6_sum 6 = .ok (.istore_n 3, 1) := by decide +kernel
theorem dX6_sum_7 : decode cX6_sum 7 = .ok (.iconst 0, 1) := by decide +kernel
theorem dX6_sum_8 : decode cX6_sum 8 = .ok (.istore 4, 2) := by decide +kernel
theorem dX6_sum_10 : decode cX6_sum 10 = .ok (.iload 4, 2) := by decide +kernel
theorem dX6_sum_12 : decode cX6_sum 12 = .ok (.sipush 1600, 3) := by decide +kernel
theorem dX6_sum_15 : decode cX6_sum 15 = .ok (.if_icmp .ge 70, 3) := by decide +kernel
theorem dX6_sum_18 : decode cX6_sum 18 = .ok (.iload_n 3, 1) := by decide +kernel
theorem dX6_sum_19 : decode cX6_sum 19 = .ok (.ifCond .eq 66, 3) := by decide +kernel
theorem dX6_sum_22 : decode cX6_sum 22 = .ok (.aload_n 0, 1) := by decide +kernel
theorem dX6_sum_23 : decode cX6_sum 23 = .ok (.bipush 43, 2) := by decide +kernel
theorem dX6_sum_25 : decode cX6_sum 25 = .ok (.bipush 45, 2) := by decide +kernel
theorem dX6_sum_27 : decode cX6_sum 27 = .ok (.bipush 45, 2) := by decide +kernel
theorem dX6_sum_29 : decode cX6_sum 29 = .ok (.invokevirtual 198, 3) := by decide +kernel
theorem dX6_sum_32 : decode cX6_sum 32 = .ok (.ifCond .eq 53, 3) := by decide +kernel
theorem dX6_sum_35 : decode cX6_sum 35 = .ok (.aload_n 0, 1) := by decide +kernel
theorem dX6_sum_36 : decode cX6_sum 36 = .ok (.getfield 28, 3) := by decide +kernel
theorem dX6_sum_39 : decode cX6_sum 39 = .ok (.istore 5, 2) := by decide +kernel
theorem dX6_sum_41 : decode cX6_sum 41 = .ok (.aload_n 0, 1) := by decide +kernel
theorem dX6_sum_42 : decode cX6_sum 42 = .ok (.aload_n 0, 1) := by decide +kernel
theorem dX6_sum_43 : decode cX6_sum 43 = .ok (.getfield 18, 3) := by decide +kernel
theorem dX6_sum_46 : decode cX6_sum 46 = .ok (.iconst 1, 1) := by decide +kernel
theorem dX6_sum_47 : decode cX6_sum 47 = .ok (.iadd, 1) := by decide +kernel
theorem dX6_sum_48 : decode cX6_sum 48 = .ok (.invokevirtual 61, 3) := by decide +kernel
theorem dX6_sum_51 : decode cX6_sum 51 = .ok (.ifCond .eq 26, 3) := by decide +kernel
theorem dX6_sum_54 : decode cX6_sum 54 = .ok (.aload_n 0, 1) := by decide +kernel
theorem dX6_sum_55 : decode cX6_sum 55 = .ok (.aload_n 1, 1) := by decide +kernel
theorem dX6_sum_56 : decode cX6_sum 56 = .ok (.iload_n 2, 1) := by decide +kernel
theorem dX6_sum_57 : decode cX6_sum 57 = .ok (.invokevirtual 195, 3) := by decide +kernel
theorem dX6_sum_60 : decode cX6_sum 60 = .ok (.ifCond .eq 17, 3) := by decide +kernel
theorem dX6_sum_63 : decode cX6_sum 63 = .ok (.aload_n 1, 1) := by decide +kernel
theorem dX6_sum_64 : decode cX6_sum 64 = .ok (.iload 5, 2) := by decide +kernel
theorem dX6_sum_66 : decode cX6_sum 66 = .ok (.ineg, 1) := by decide +kernel
theorem dX6_sum_67 : decode cX6_sum 67 = .ok (.invokevirtual 202, 3) := by decide +kernel
theorem dX6_sum_70 : decode cX6_sum 70 = .ok (.ifCond .eq 7, 3) := by decide +kernel
theorem dX6_sum_73 : decode cX6_sum 73 = .ok (.iconst 1, 1) := by decide +kernel
theorem dX6_sum_74 : decode cX6_sum 74 = .ok (.goto 4, 3) := by decide +kernel
theorem dX6_sum_77 : decode cX6_sum 77 = .ok (.iconst 0, 1) := by decide +kernel
theorem dX6_sum_78 : decode cX6_sum 78 = .ok (.istore_n 3, 1) := by decide +kernel
theorem dX6_sum_79 : decode cX6_sum 79 = .ok (.iinc 4 1, 3) := by decide +kernel
theorem dX6_sum_82 : decode cX6_sum 82 = .ok (.goto (-72), 3) := by decide +kernel
theorem dX6_sum_85 : decode cX6_sum 85 = .ok (.iload_n 3, 1) := by decide +kernel
theorem dX6_sum_86 : decode cX6_sum 86 = .ok (.ireturn, 1) := by decide +kernel
set_option maxRecDepth 100000 in
set_option maxHeartbeats 4000000 in
theorem X6_sum_J78_ok {g : Gm} {w : Wd} (C : Cx g w RX6 cX6_sum 6 (some .boolean)) {lv : Nat} (hlv : 1 < lv) {N : Nat} {lvs : Nat} (hk : 8 ≤ lvs) (hs : lvs + 2 < lv) {self : Nat → Nat → Int → Mem → Option (Int × Mem)} (hself : ∀ l0 l1 l2 m r, self l0 l1 l2 m = some r → shK l0 = 6 + 10 ∧ CT yX6_sum cX6_sum 6 (some .boolean) lvs 0 0 [vR l0, vR l1, vI l2] 312 m (some (vI r.1)) 312 r.2) {r10 : Nat → Nat → Int → Int → Int → Mem → Option (Int × Mem) } {l0 : Nat} {l1 : Nat} {l2 : Int} {l4 : Int} {s0 : Int} {m : Mem} {out : (Int × Mem)} (hr10 : ∀ l0 l1 l2 l3 l4 m, r10 l0 l1 l2 l3 l4 m = some out → Jd g w 6 (rmL lv 0 0) (Qm g w (some (vI out.1)) out.2) 10 [some (vR l0), some (vR l1), some (vI l2), some (vI l3), some (vI l4), none] [] 312 m 0 0) (h : X6_sum_J78 N self r10 l0 l1 l2 l4 s0 m = some out) : Jd g w 6 (rmL lv 0 0) (Qm g w (some (vI out.1)) out.2) 78 [some (vR l0), some (vR l1), some (vI l2), none, some (vI l4), none] [vI s0] 312 m 0 0 := by
  unfold X6_sum_J78 at h
  refine j_istore_n (ls' := [some (vR _), some (vR _), some (vI _), some (vI _), some (vI _), none]) C dX6_sum_78 (by decide) rfl ?_
  refine j_iinc (ls' := [some (vR _), some (vR _), some (vI _), some (vI _), some (vI _), none]) C dX6_sum_79 rfl (by decide) rfl ?_
  refine j_goto C 10 dX6_sum_82 rfl ?_
  exact hr10 _ _ _ _ _ _ h
set_option maxRecDepth 100000 in
set_option maxHeartbeats 4000000 in
theorem X6_sum_J77_ok {g : Gm} {w : Wd} (C : Cx g w RX6 cX6_sum 6 (some .boolean)) {lv : Nat} (hlv : 1 < lv) {N : Nat} {lvs : Nat} (hk : 8 ≤ lvs) (hs : lvs + 2 < lv) {self : Nat → Nat → Int → Mem → Option (Int × Mem)} (hself : ∀ l0 l1 l2 m r, self l0 l1 l2 m = some r → shK l0 = 6 + 10 ∧ CT yX6_sum cX6_sum 6 (some .boolean) lvs 0 0 [vR l0, vR l1, vI l2] 312 m (some (vI r.1)) 312 r.2) {r10 : Nat → Nat → Int → Int → Int → Mem → Option (Int × Mem) } {l0 : Nat} {l1 : Nat} {l2 : Int} {l4 : Int} {m : Mem} {out : (Int × Mem)} (hr10 : ∀ l0 l1 l2 l3 l4 m, r10 l0 l1 l2 l3 l4 m = some out → Jd g w 6 (rmL lv 0 0) (Qm g w (some (vI out.1)) out.2) 10 [some (vR l0), some (vR l1), some (vI l2), some (vI l3), some (vI l4), none] [] 312 m 0 0) (h : X6_sum_J77 N self r10 l0 l1 l2 l4 m = some out) : Jd g w 6 (rmL lv 0 0) (Qm g w (some (vI out.1)) out.2) 77 [some (vR l0), some (vR l1), some (vI l2), none, some (vI l4), none] [] 312 m 0 0 := by
  unfold X6_sum_J77 at h
  refine j_iconst C dX6_sum_77 rfl ?_
  exact X6_sum_J78_ok C hlv hk hs hself hr10 h
set_option maxRecDepth 100000 in
set_option maxHeartbeats 4000000 in
theorem X6_sum_L10_bok {g : Gm} {w : Wd} (C : Cx g w RX6 cX6_sum 6 (some .boolean)) {lv : Nat} (hlv : 1 < lv) {N : Nat} {lvs : Nat} (hk : 8 ≤ lvs) (hs : lvs + 2 < lv) {self : Nat → Nat → Int → Mem → Option (Int × Mem)} (hself : ∀ l0 l1 l2 m r, self l0 l1 l2 m = some r → shK l0 = 6 + 10 ∧ CT yX6_sum cX6_sum 6 (some .boolean) lvs 0 0 [vR l0, vR l1, vI l2] 312 m (some (vI r.1)) 312 r.2) {r10 : Nat → Nat → Int → Int → Int → Mem → Option (Int × Mem)} {l0 : Nat} {l1 : Nat} {l2 : Int} {l3 : Int} {l4 : Int} {m : Mem} {out : (Int × Mem)} (hr10 : ∀ l0 l1 l2 l3 l4 m, r10 l0 l1 l2 l3 l4 m = some out → Jd g w 6 (rmL lv 0 0) (Qm g w (some (vI out.1)) out.2) 10 [some (vR l0), some (vR l1), some (vI l2), some (vI l3), some (vI l4), none] [] 312 m 0 0) (h : X6_sum_L10_b N self r10 l0 l1 l2 l3 l4 m = some out) : Jd g w 6 (rmL lv 0 0) (Qm g w (some (vI out.1)) out.2) 10 [some (vR l0), some (vR l1), some (vI l2), some (vI l3), some (vI l4), none] [] 312 m 0 0 := by
  unfold X6_sum_L10_b at h
  refine j_iload C dX6_sum_10 rfl ?_
  refine j_sipush C dX6_sum_12 rfl ?_
  refine j_icmp_ge C 85 dX6_sum_15 rfl h (fun c16 h => ?_) (fun c16 h => ?_)
  · refine j_iload_n C dX6_sum_85 rfl ?_
    obtain ⟨r2, er2, h⟩ := bind_some h
    have e := Option.some.inj h
    subst e
    exact j_rz C dX6_sum_86 rfl (retZ_some er2) rfl
  · refine j_iload_n C dX6_sum_18 rfl ?_
    refine j_if_eq C 85 dX6_sum_19 rfl h (fun c15 h => ?_) (fun c15 h => ?_)
    · refine j_iload_n C dX6_sum_85 rfl ?_
      obtain ⟨r3, er3, h⟩ := bind_some h
      have e := Option.some.inj h
      subst e
      exact j_rz C dX6_sum_86 rfl (retZ_some er3) rfl
    · refine j_aload_n C dX6_sum_22 rfl ?_
      refine j_bipush C dX6_sum_23 rfl ?_
      refine j_bipush C dX6_sum_25 rfl ?_
      refine j_bipush C dX6_sum_27 rfl ?_
      obtain ⟨p4, ep4, h⟩ := bind_some h
      have qp4 := X6_isSign_ct ep4
      refine j_cVI C dX6_sum_29 vl_X6_198 CF6 rfl qp4.1 qp4.2 (by omega) rfl rfl (Nat.le_of_ble_eq_true rfl) ?_
      refine j_if_eq C 85 dX6_sum_32 rfl h (fun c14 h => ?_) (fun c14 h => ?_)
      · refine j_iload_n C dX6_sum_85 rfl ?_
        obtain ⟨r5, er5, h⟩ := bind_some h
        have e := Option.some.inj h
        subst e
        exact j_rz C dX6_sum_86 rfl (retZ_some er5) rfl
      · refine j_aload_n C dX6_sum_35 rfl ?_
        refine j_getI C dX6_sum_36 CF6 (by decide) fl_X6_28 rfl rfl h (fun t6 h => ?_)
        refine j_istore (ls' := [some (vR _), some (vR _), some (vI _), some (vI _), some (vI _), some (vI _)]) C dX6_sum_39 (by decide) rfl ?_
        refine j_aload_n C dX6_sum_41 rfl ?_
        refine j_aload_n C dX6_sum_42 rfl ?_
        refine j_getI C dX6_sum_43 CF6 (by decide) fl_X6_18 rfl rfl h (fun t7 h => ?_)
        refine j_iconst C dX6_sum_46 rfl ?_
        refine j_iadd C dX6_sum_47 ?_
        obtain ⟨p8, ep8, h⟩ := bind_some h
        have qp8 := X6_goTo_ct ep8
        refine j_cVI C dX6_sum_48 vl_X6_61 CF6 rfl qp8.1 qp8.2 (by omega) rfl rfl (Nat.le_of_ble_eq_true rfl) ?_
        refine j_if_eq C 77 dX6_sum_51 rfl h (fun c13 h => ?_) (fun c13 h => ?_)
        · refine j_mask [true, true, true, false, true, false] (ls' := [some (vR _), some (vR _), some (vI _), none, some (vI _), none]) rfl ?_
          exact X6_sum_J77_ok C hlv hk hs hself hr10 h
        · refine j_aload_n C dX6_sum_54 rfl ?_
          refine j_aload_n C dX6_sum_55 rfl ?_
          refine j_iload_n C dX6_sum_56 rfl ?_
          obtain ⟨p9, ep9, h⟩ := bind_some h
          have qp9 := X6_product_ct (lv := lvs + 2) (by omega) hk (by omega) hself ep9
          refine j_cVI C dX6_sum_57 vl_X6_195 CF6 rfl qp9.1 qp9.2 (by omega) rfl rfl (Nat.le_of_ble_eq_true rfl) ?_
          refine j_if_eq C 77 dX6_sum_60 rfl h (fun c12 h => ?_) (fun c12 h => ?_)
          · refine j_mask [true, true, true, false, true, false] (ls' := [some (vR _), some (vR _), some (vI _), none, some (vI _), none]) rfl ?_
            exact X6_sum_J77_ok C hlv hk hs hself hr10 h
          · refine j_aload_n C dX6_sum_63 rfl ?_
            refine j_iload C dX6_sum_64 rfl ?_
            refine j_ineg C dX6_sum_66 ?_
            obtain ⟨p10, ep10, h⟩ := bind_some h
            have qp10 := X7_add_ct ep10
            refine j_cVI C dX6_sum_67 vl_X6_202 CF7 rfl qp10.1 qp10.2 (by omega) rfl rfl (Nat.le_of_ble_eq_true rfl) ?_
            refine j_if_eq C 77 dX6_sum_70 rfl h (fun c11 h => ?_) (fun c11 h => ?_)
            · refine j_mask [true, true, true, false, true, false] (ls' := [some (vR _), some (vR _), some (vI _), none, some (vI _), none]) rfl ?_
              exact X6_sum_J77_ok C hlv hk hs hself hr10 h
            · refine j_iconst C dX6_sum_73 rfl ?_
              refine j_goto C 78 dX6_sum_74 rfl ?_
              refine j_mask [true, true, true, false, true, false] (ls' := [some (vR _), some (vR _), some (vI _), none, some (vI _), none]) rfl ?_
              exact X6_sum_J78_ok C hlv hk hs hself hr10 h
set_option maxRecDepth 100000 in
set_option maxHeartbeats 4000000 in
theorem X6_sum_L10_ok {g : Gm} {w : Wd} (C : Cx g w RX6 cX6_sum 6 (some .boolean)) {lv : Nat} (hlv : 1 < lv) {N : Nat} {lvs : Nat} (hk : 8 ≤ lvs) (hs : lvs + 2 < lv) {self : Nat → Nat → Int → Mem → Option (Int × Mem)} (hself : ∀ l0 l1 l2 m r, self l0 l1 l2 m = some r → shK l0 = 6 + 10 ∧ CT yX6_sum cX6_sum 6 (some .boolean) lvs 0 0 [vR l0, vR l1, vI l2] 312 m (some (vI r.1)) 312 r.2) {out : (Int × Mem)} (f : Nat) : ∀ {l0 : Nat} {l1 : Nat} {l2 : Int} {l3 : Int} {l4 : Int} {m : Mem}, X6_sum_L10 N self f l0 l1 l2 l3 l4 m = some out → Jd g w 6 (rmL lv 0 0) (Qm g w (some (vI out.1)) out.2) 10 [some (vR l0), some (vR l1), some (vI l2), some (vI l3), some (vI l4), none] [] 312 m 0 0 := by
  induction f with
  | zero => intro l0 l1 l2 l3 l4 m h; exact none_ne (α := (Int × Mem)) h
  | succ f ih => intro l0 l1 l2 l3 l4 m h; exact X6_sum_L10_bok C hlv hk hs hself (fun l0 l1 l2 l3 l4 m h => ih h) h
set_option maxRecDepth 100000 in
set_option maxHeartbeats 4000000 in
theorem X6_sum_c_ct {N : Nat} {lv : Nat} (hlv : 1 < lv) {lvs : Nat} (hk : 8 ≤ lvs) (hs : lvs + 2 < lv) {self : Nat → Nat → Int → Mem → Option (Int × Mem)} (hself : ∀ l0 l1 l2 m r, self l0 l1 l2 m = some r → shK l0 = 6 + 10 ∧ CT yX6_sum cX6_sum 6 (some .boolean) lvs 0 0 [vR l0, vR l1, vI l2] 312 m (some (vI r.1)) 312 r.2) {l0 : Nat} {l1 : Nat} {l2 : Int} {m : Mem} {out : (Int × Mem)} (h : X6_sum_c N self l0 l1 l2 m = some out) : shK l0 = 6 + 10 ∧ CT yX6_sum cX6_sum 6 (some .boolean) lv 0 0 [vR l0, vR l1, vI l2] 312 m (some (vI out.1)) 312 out.2 := by
  unfold X6_sum_c at h
  obtain ⟨hK, h⟩ := ite_some h
  refine ⟨hK, CT.of (by decide +kernel) rfl (Nat.le_of_ble_eq_true rfl) (ls := [some (vR l0), some (vR l1), some (vI l2), none, none, none]) rfl fun g w C _ => ?_⟩
  refine j_aload_n C dX6_sum_0 rfl ?_
  refine j_aload_n C dX6_sum_1 rfl ?_
  refine j_iload_n C dX6_sum_2 rfl ?_
  obtain ⟨p1, ep1, h⟩ := bind_some h
  have qp1 := X6_product_ct (lv := lvs + 2) (by omega) hk (by omega) hself ep1
  refine j_cVI C dX6_sum_3 vl_X6_195 CF6 rfl qp1.1 qp1.2 (by omega) rfl rfl (Nat.le_of_ble_eq_true rfl) ?_
  refine j_istore_n (ls' := [some (vR _), some (vR _), some (vI _), some (vI _), none, none]) C dX6_sum_6 (by decide) rfl ?_
  refine j_iconst C dX6_sum_7 rfl ?_
  refine j_istore (ls' := [some (vR _), some (vR _), some (vI _), some (vI _), some (vI _), none]) C dX6_sum_8 (by decide) rfl ?_
  exact X6_sum_L10_ok C hlv hk hs hself N h
set_option maxRecDepth 100000 in
set_option maxHeartbeats 4000000 in
theorem X6_sum_ctd {N : Nat} (d : Nat) : ∀ {l0 : Nat} {l1 : Nat} {l2 : Int} {m : Mem} {out : (Int × Mem)}, X6_sum N d l0 l1 l2 m = some out → shK l0 = 6 + 10 ∧ CT yX6_sum cX6_sum 6 (some .boolean) (9 + 3 * d) 0 0 [vR l0, vR l1, vI l2] 312 m (some (vI out.1)) 312 out.2 := by
  induction d with
  | zero => intro l0 l1 l2 m out h; exact none_ne (α := (Int × Mem)) h
  | succ d ih => intro l0 l1 l2 m out h; exact X6_sum_c_ct (lv := 9 + 3 * (d + 1)) (lvs := 9 + 3 * d) (self := X6_sum N d) (by omega) (by omega) (by omega) (fun l0 l1 l2 m r h => ih h) h
set_option maxRecDepth 100000 in
set_option maxHeartbeats 4000000 in
theorem X6_sum_ct {N : Nat} {l0 : Nat} {l1 : Nat} {l2 : Int} {m : Mem} {out : (Int × Mem)} (h : X6_sum N 10 l0 l1 l2 m = some out) : shK l0 = 6 + 10 ∧ CT yX6_sum cX6_sum 6 (some .boolean) (39) 0 0 [vR l0, vR l1, vI l2] 312 m (some (vI out.1)) 312 out.2 := X6_sum_ctd 10 h
theorem dX6_drinks_0 : decode cX6_drinks 0 = .ok (.aload_n 0, 1) := by decide +kernel
theorem dX6_drinks_1 : decode cX6_drinks 1 = .ok (.iconst 0, 1) := by decide +kernel
theorem dX6_drinks_2 : decode cX6_drinks 2 = .ok (.sipush 999, 3) := by decide +kernel
theorem dX6_drinks_5 : decode cX6_drinks 5 = .ok (.invokevirtual 79, 3) := by decide +kernel
theorem dX6_drinks_8 : decode cX6_drinks 8 = .ok (.istore_n 2, 1) := by decide +kernel
theorem dX6_drinks_9 : decode cX6_drinks 9 = .ok (.aload_n 1, 1) := by decide +kernel
theorem dX6_drinks_10 : decode cX6_drinks 10 = .ok (.aload_n 0, 1) := by decide +kernel
theorem dX6_drinks_11 : decode cX6_drinks 11 = .ok (.getfield 31, 3) := by decide +kernel
theorem dX6_drinks_14 : decode cX6_drinks 14 = .ok (.putfield 189, 3) := by decide +kernel
theorem dX6_drinks_17 : decode cX6_drinks 17 = .ok (.iload_n 2, 1) := by decide +kernel
theorem dX6_drinks_18 : decode cX6_drinks 18 = .ok (.ireturn, 1) := by decide +kernel
set_option maxRecDepth 100000 in
set_option maxHeartbeats 4000000 in
theorem X6_drinks_ct {l0 : Nat} {l1 : Nat} {m : Mem} {out : (Int × Mem)} (h : X6_drinks l0 l1 m = some out) : shK l0 = 6 + 10 ∧ CT yX6_drinks cX6_drinks 3 (some .boolean) 3 0 0 [vR l0, vR l1] 312 m (some (vI out.1)) 312 out.2 := by
  unfold X6_drinks at h
  obtain ⟨hK, h⟩ := ite_some h
  have hlv : 2 < 3 := by decide
  refine ⟨hK, CT.of (by decide +kernel) rfl (Nat.le_of_ble_eq_true rfl) (ls := [some (vR l0), some (vR l1), none]) rfl fun g w C _ => ?_⟩
  refine j_aload_n C dX6_drinks_0 rfl ?_
  refine j_iconst C dX6_drinks_1 rfl ?_
  refine j_sipush C dX6_drinks_2 rfl ?_
  obtain ⟨p1, ep1, h⟩ := bind_some h
  have qp1 := X6_number_ct ep1
  refine j_cVI C dX6_drinks_5 vl_X6_79 CF6 rfl qp1.1 qp1.2 (by omega) rfl rfl (Nat.le_of_ble_eq_true rfl) ?_
  refine j_istore_n (ls' := [some (vR _), some (vR _), some (vI _)]) C dX6_drinks_8 (by decide) rfl ?_
  refine j_aload_n C dX6_drinks_9 rfl ?_
  refine j_aload_n C dX6_drinks_10 rfl ?_
  refine j_getI C dX6_drinks_11 CF6 (by decide) fl_X6_31 rfl rfl h (fun t2 h => ?_)
  refine j_putI C dX6_drinks_14 CF5 (by decide) fl_X6_189 rfl rfl rfl rfl h (fun m3 h => ?_)
  refine j_iload_n C dX6_drinks_17 rfl ?_
  obtain ⟨r4, er4, h⟩ := bind_some h
  have e := Option.some.inj h
  subst e
  exact j_rz C dX6_drinks_18 rfl (retZ_some er4) rfl
theorem dX6_cloudy_0 : decode cX6_cloudy 0 = .ok (.aload_n 0, 1) := by decide +kernel
theorem dX6_cloudy_1 : decode cX6_cloudy 1 = .ok (.iconst 0, 1) := by decide +kernel
theorem dX6_cloudy_2 : decode cX6_cloudy 2 = .ok (.bipush 100, 2) := by decide +kernel
theorem dX6_cloudy_4 : decode cX6_cloudy 4 = .ok (.invokevirtual 79, 3) := by decide +kernel
theorem dX6_cloudy_7 : decode cX6_cloudy 7 = .ok (.istore_n 2, 1) := by decide +kernel
theorem dX6_cloudy_8 : decode cX6_cloudy 8 = .ok (.aload_n 1, 1) := by decide +kernel
theorem dX6_cloudy_9 : decode cX6_cloudy 9 = .ok (.aload_n 0, 1) := by decide +kernel
theorem dX6_cloudy_10 : decode cX6_cloudy 10 = .ok (.getfield 31, 3) := by decide +kernel
theorem dX6_cloudy_13 : decode cX6_cloudy 13 = .ok (.putfield 191, 3) := by decide +kernel
theorem dX6_cloudy_16 : decode cX6_cloudy 16 = .ok (.iload_n 2, 1) := by decide +kernel
theorem dX6_cloudy_17 : decode cX6_cloudy 17 = .ok (.ireturn, 1) := by decide +kernel
set_option maxRecDepth 100000 in
set_option maxHeartbeats 4000000 in
theorem X6_cloudy_ct {l0 : Nat} {l1 : Nat} {m : Mem} {out : (Int × Mem)} (h : X6_cloudy l0 l1 m = some out) : shK l0 = 6 + 10 ∧ CT yX6_cloudy cX6_cloudy 3 (some .boolean) 3 0 0 [vR l0, vR l1] 312 m (some (vI out.1)) 312 out.2 := by
  unfold X6_cloudy at h
  obtain ⟨hK, h⟩ := ite_some h
  have hlv : 2 < 3 := by decide
  refine ⟨hK, CT.of (by decide +kernel) rfl (Nat.le_of_ble_eq_true rfl) (ls := [some (vR l0), some (vR l1), none]) rfl fun g w C _ => ?_⟩
  refine j_aload_n C dX6_cloudy_0 rfl ?_
  refine j_iconst C dX6_cloudy_1 rfl ?_
  refine j_bipush C dX6_cloudy_2 rfl ?_
  obtain ⟨p1, ep1, h⟩ := bind_some h
  have qp1 := X6_number_ct ep1
  refine j_cVI C dX6_cloudy_4 vl_X6_79 CF6 rfl qp1.1 qp1.2 (by omega) rfl rfl (Nat.le_of_ble_eq_true rfl) ?_
  refine j_istore_n (ls' := [some (vR _), some (vR _), some (vI _)]) C dX6_cloudy_7 (by decide) rfl ?_
  refine j_aload_n C dX6_cloudy_8 rfl ?_
  refine j_aload_n C dX6_cloudy_9 rfl ?_
  refine j_getI C dX6_cloudy_10 CF6 (by decide) fl_X6_31 rfl rfl h (fun t2 h => ?_)
  refine j_putI C dX6_cloudy_13 CF5 (by decide) fl_X6_191 rfl rfl rfl rfl h (fun m3 h => ?_)
  refine j_iload_n C dX6_cloudy_16 rfl ?_
  obtain ⟨r4, er4, h⟩ := bind_some h
  have e := Option.some.inj h
  subst e
  exact j_rz C dX6_cloudy_17 rfl (retZ_some er4) rfl
theorem dX6_wring_0 : decode cX6_wring 0 = .ok (.aload_n 0, 1) := by decide +kernel
theorem dX6_wring_1 : decode cX6_wring 1 = .ok (.iconst 1, 1) := by decide +kernel
theorem dX6_wring_2 : decode cX6_wring 2 = .ok (.bipush 20, 2) := by decide +kernel
theorem dX6_wring_4 : decode cX6_wring 4 = .ok (.invokevirtual 79, 3) := by decide +kernel
theorem dX6_wring_7 : decode cX6_wring 7 = .ok (.istore_n 2, 1) := by decide +kernel
theorem dX6_wring_8 : decode cX6_wring 8 = .ok (.aload_n 1, 1) := by decide +kernel
theorem dX6_wring_9 : decode cX6_wring 9 = .ok (.aload_n 0, 1) := by decide +kernel
theorem dX6_wring_10 : decode cX6_wring 10 = .ok (.getfield 31, 3) := by decide +kernel
theorem dX6_wring_13 : decode cX6_wring 13 = .ok (.putfield 193, 3) := by decide +kernel
theorem dX6_wring_16 : decode cX6_wring 16 = .ok (.iload_n 2, 1) := by decide +kernel
theorem dX6_wring_17 : decode cX6_wring 17 = .ok (.ireturn, 1) := by decide +kernel
set_option maxRecDepth 100000 in
set_option maxHeartbeats 4000000 in
theorem X6_wring_ct {l0 : Nat} {l1 : Nat} {m : Mem} {out : (Int × Mem)} (h : X6_wring l0 l1 m = some out) : shK l0 = 6 + 10 ∧ CT yX6_wring cX6_wring 3 (some .boolean) 3 0 0 [vR l0, vR l1] 312 m (some (vI out.1)) 312 out.2 := by
  unfold X6_wring at h
  obtain ⟨hK, h⟩ := ite_some h
  have hlv : 2 < 3 := by decide
  refine ⟨hK, CT.of (by decide +kernel) rfl (Nat.le_of_ble_eq_true rfl) (ls := [some (vR l0), some (vR l1), none]) rfl fun g w C _ => ?_⟩
  refine j_aload_n C dX6_wring_0 rfl ?_
  refine j_iconst C dX6_wring_1 rfl ?_
  refine j_bipush C dX6_wring_2 rfl ?_
  obtain ⟨p1, ep1, h⟩ := bind_some h
  have qp1 := X6_number_ct ep1
  refine j_cVI C dX6_wring_4 vl_X6_79 CF6 rfl qp1.1 qp1.2 (by omega) rfl rfl (Nat.le_of_ble_eq_true rfl) ?_
  refine j_istore_n (ls' := [some (vR _), some (vR _), some (vI _)]) C dX6_wring_7 (by decide) rfl ?_
  refine j_aload_n C dX6_wring_8 rfl ?_
  refine j_aload_n C dX6_wring_9 rfl ?_
  refine j_getI C dX6_wring_10 CF6 (by decide) fl_X6_31 rfl rfl h (fun t2 h => ?_)
  refine j_putI C dX6_wring_13 CF5 (by decide) fl_X6_193 rfl rfl rfl rfl h (fun m3 h => ?_)
  refine j_iload_n C dX6_wring_16 rfl ?_
  obtain ⟨r4, er4, h⟩ := bind_some h
  have e := Option.some.inj h
  subst e
  exact j_rz C dX6_wring_17 rfl (retZ_some er4) rfl
theorem dX6_statement_0 : decode cX6_statement 0 = .ok (.aload_n 0, 1) := by decide +kernel
theorem dX6_statement_1 : decode cX6_statement 1 = .ok (.getfield 22, 3) := by decide +kernel
theorem dX6_statement_4 : decode cX6_statement 4 = .ok (.iconst 2, 1) := by decide +kernel
theorem dX6_statement_5 : decode cX6_statement 5 = .ok (.if_icmp .ne 10, 3) := by decide +kernel
theorem dX6_statement_8 : decode cX6_statement 8 = .ok (.aload_n 0, 1) := by decide +kernel
theorem dX6_statement_9 : decode cX6_statement 9 = .ok (.getfield 28, 3) := by decide +kernel
theorem dX6_statement_12 : decode cX6_statement 12 = .ok (.goto 4, 3) := by decide +kernel
theorem dX6_statement_15 : decode cX6_statement 15 = .ok (.iconst (-1), 1) := by decide +kernel
theorem dX6_statement_16 : decode cX6_statement 16 = .ok (.istore_n 2, 1) := by decide +kernel
theorem dX6_statement_17 : decode cX6_statement 17 = .ok (.aload_n 0, 1) := by decide +kernel
theorem dX6_statement_18 : decode cX6_statement 18 = .ok (.getfield 49, 3) := by decide +kernel
theorem dX6_statement_21 : decode cX6_statement 21 = .ok (.bipush 80, 2) := by decide +kernel
theorem dX6_statement_23 : decode cX6_statement 23 = .ok (.if_icmp .ge 11, 3) := by decide +kernel
theorem dX6_statement_26 : decode cX6_statement 26 = .ok (.aload_n 1, 1) := by decide +kernel
theorem dX6_statement_27 : decode cX6_statement 27 = .ok (.iload_n 2, 1) := by decide +kernel
theorem dX6_statement_28 : decode cX6_statement 28 = .ok (.invokestatic 90, 3) := by decide +kernel
theorem dX6_statement_31 : decode cX6_statement 31 = .ok (.ifCond .eq 14, 3) := by decide +kernel
theorem dX6_statement_34 : decode cX6_statement 34 = .ok (.aload_n 0, 1) := by decide +kernel
theorem dX6_statement_35 : decode cX6_statement 35 = .ok (.bipush 6, 2) := by decide +kernel
theorem dX6_statement_37 : decode cX6_statement 37 = .ok (.aload_n 0, 1) := by decide +kernel
theorem dX6_statement_38 : decode cX6_statement 38 = .ok (.getfield 25, 3) := by decide +kernel
theorem dX6_statement_41 : decode cX6_statement 41 = .ok (.invokevirtual 94, 3) := by decide +kernel
theorem dX6_statement_44 : decode cX6_statement 44 = .ok (.ireturn, 1) := by decide +kernel
theorem dX6_statement_45 : decode cX6_statement 45 = .ok (.iload_n 2, 1) := by decide +kernel
theorem dX6_statement_46 : decode cX6_statement 46 = .ok (.tableswitch 401 1 15 #[74, 401, 96, 118, 140, 162, 401, 193, 216, 239, 261, 298, 335, 357, 379], 74) := by decide +kernel
theorem dX6_statement_120 : decode cX6_statement 120 = .ok (.aload_n 0, 1) := by decide +kernel
theorem dX6_statement_121 : decode cX6_statement 121 = .ok (.iload_n 2, 1) := by decide +kernel
theorem dX6_statement_122 : decode cX6_statement 122 = .ok (.invokevirtual 76, 3) := by decide +kernel
theorem dX6_statement_125 : decode cX6_statement 125 = .ok (.ifCond .eq 15, 3) := by decide +kernel
theorem dX6_statement_128 : decode cX6_statement 128 = .ok (.aload_n 0, 1) := by decide +kernel
theorem dX6_statement_129 : decode cX6_statement 129 = .ok (.aload_n 1, 1) := by decide +kernel
theorem dX6_statement_130 : decode cX6_statement 130 = .ok (.invokevirtual 97, 3) := by decide +kernel
theorem dX6_statement_133 : decode cX6_statement 133 = .ok (.ifCond .eq 7, 3) := by decide +kernel
theorem dX6_statement_136 : decode cX6_statement 136 = .ok (.iconst 1, 1) := by decide +kernel
theorem dX6_statement_137 : decode cX6_statement 137 = .ok (.goto 4, 3) := by decide +kernel
theorem dX6_statement_140 : decode cX6_statement 140 = .ok (.iconst 0, 1) := by decide +kernel
theorem dX6_statement_141 : decode cX6_statement 141 = .ok (.ireturn, 1) := by decide +kernel
theorem dX6_statement_142 : decode cX6_statement 142 = .ok (.aload_n 0, 1) := by decide +kernel
theorem dX6_statement_143 : decode cX6_statement 143 = .ok (.iload_n 2, 1) := by decide +kernel
theorem dX6_statement_144 : decode cX6_statement 144 = .ok (.invokevirtual 76, 3) := by decide +kernel
theorem dX6_statement_147 : decode cX6_statement 147 = .ok (.ifCond .eq 15, 3) := by decide +kernel
theorem dX6_statement_150 : decode cX6_statement 150 = .ok (.aload_n 0, 1) := by decide +kernel
theorem dX6_statement_151 : decode cX6_statement 151 = .ok (.aload_n 1, 1) := by decide +kernel
theorem dX6_statement_152 : decode cX6_statement 152 = .ok (.invokevirtual 100, 3) := by decide +kernel
theorem dX6_statement_155 : decode cX6_statement 155 = .ok (.ifCond .eq 7, 3) := by decide +kernel
theorem dX6_statement_158 : decode cX6_statement 158 = .ok (.iconst 1, 1) := by decide +kernel
theorem dX6_statement_159 : decode cX6_statement 159 = .ok (.goto 4, 3) := by decide +kernel
theorem dX6_statement_162 : decode cX6_statement 162 = .ok (.iconst 0, 1) := by decide +kernel
theorem dX6_statement_163 : decode cX6_statement 163 = .ok (.ireturn, 1) := by decide +kernel
theorem dX6_statement_164 : decode cX6_statement 164 = .ok (.aload_n 0, 1) := by decide +kernel
theorem dX6_statement_165 : decode cX6_statement 165 = .ok (.iload_n 2, 1) := by decide +kernel
theorem dX6_statement_166 : decode cX6_statement 166 = .ok (.invokevirtual 76, 3) := by decide +kernel
theorem dX6_statement_169 : decode cX6_statement 169 = .ok (.ifCond .eq 15, 3) := by decide +kernel
theorem dX6_statement_172 : decode cX6_statement 172 = .ok (.aload_n 0, 1) := by decide +kernel
theorem dX6_statement_173 : decode cX6_statement 173 = .ok (.aload_n 1, 1) := by decide +kernel
theorem dX6_statement_174 : decode cX6_statement 174 = .ok (.invokevirtual 103, 3) := by decide +kernel
theorem dX6_statement_177 : decode cX6_statement 177 = .ok (.ifCond .eq 7, 3) := by decide +kernel
theorem dX6_statement_180 : decode cX6_statement 180 = .ok (.iconst 1, 1) := by decide +kernel
theorem dX6_statement_181 : decode cX6_statement 181 = .ok (.goto 4, 3) := by decide +kernel
theorem dX6_statement_184 : decode cX6_statement 184 = .ok (.iconst 0, 1) := by decide +kernel
theorem dX6_statement_185 : decode cX6_statement 185 = .ok (.ireturn, 1) := by decide +kernel
theorem dX6_statement_186 : decode cX6_statement 186 = .ok (.aload_n 0, 1) := by decide +kernel
theorem dX6_statement_187 : decode cX6_statement 187 = .ok (.iload_n 2, 1) := by decide +kernel
theorem dX6_statement_188 : decode cX6_statement 188 = .ok (.invokevirtual 76, 3) := by decide +kernel
theorem dX6_statement_191 : decode cX6_statement 191 = .ok (.ifCond .eq 15, 3) := by decide +kernel
theorem dX6_statement_194 : decode cX6_statement 194 = .ok (.aload_n 0, 1) := by decide +kernel
theorem dX6_statement_195 : decode cX6_statement 195 = .ok (.aload_n 1, 1) := by decide +kernel
theorem dX6_statement_196 : decode cX6_statement 196 = .ok (.invokevirtual 106, 3) := by decide +kernel
theorem dX6_statement_199 : decode cX6_statement 199 = .ok (.ifCond .eq 7, 3) := by decide +kernel
theorem dX6_statement_202 : decode cX6_statement 202 = .ok (.iconst 1, 1) := by decide +kernel
theorem dX6_statement_203 : decode cX6_statement 203 = .ok (.goto 4, 3) := by decide +kernel
theorem dX6_statement_206 : decode cX6_statement 206 = .ok (.iconst 0, 1) := by decide +kernel
theorem dX6_statement_207 : decode cX6_statement 207 = .ok (.ireturn, 1) := by decide +kernel
theorem dX6_statement_208 : decode cX6_statement 208 = .ok (.aload_n 0, 1) := by decide +kernel
theorem dX6_statement_209 : decode cX6_statement 209 = .ok (.iload_n 2, 1) := by decide +kernel
theorem dX6_statement_210 : decode cX6_statement 210 = .ok (.invokevirtual 76, 3) := by decide +kernel
theorem dX6_statement_213 : decode cX6_statement 213 = .ok (.ifCond .eq 24, 3) := by decide +kernel
theorem dX6_statement_216 : decode cX6_statement 216 = .ok (.aload_n 0, 1) := by decide +kernel
theorem dX6_statement_217 : decode cX6_statement 217 = .ok (.aload_n 1, 1) := by decide +kernel
theorem dX6_statement_218 : decode cX6_statement 218 = .ok (.invokevirtual 109, 3) := by decide +kernel
theorem dX6_statement_221 : decode cX6_statement 221 = .ok (.ifCond .eq 16, 3) := by decide +kernel
theorem dX6_statement_224 : decode cX6_statement 224 = .ok (.aload_n 0, 1) := by decide +kernel
theorem dX6_statement_225 : decode cX6_statement 225 = .ok (.aload_n 1, 1) := by decide +kernel
theorem dX6_statement_226 : decode cX6_statement 226 = .ok (.iconst 0, 1) := by decide +kernel
theorem dX6_statement_227 : decode cX6_statement 227 = .ok (.invokevirtual 111, 3) := by decide +kernel
theorem dX6_statement_230 : decode cX6_statement 230 = .ok (.ifCond .eq 7, 3) := by decide +kernel
theorem dX6_statement_233 : decode cX6_statement 233 = .ok (.iconst 1, 1) := by decide +kernel
theorem dX6_statement_234 : decode cX6_statement 234 = .ok (.goto 4, 3) := by decide +kernel
theorem dX6_statement_237 : decode cX6_statement 237 = .ok (.iconst 0, 1) := by decide +kernel
theorem dX6_statement_238 : decode cX6_statement 238 = .ok (.ireturn, 1) := by decide +kernel
theorem dX6_statement_239 : decode cX6_statement 239 = .ok (.aload_n 0, 1) := by decide +kernel
theorem dX6_statement_240 : decode cX6_statement 240 = .ok (.iload_n 2, 1) := by decide +kernel
theorem dX6_statement_241 : decode cX6_statement 241 = .ok (.invokevirtual 76, 3) := by decide +kernel
theorem dX6_statement_244 : decode cX6_statement 244 = .ok (.ifCond .eq 16, 3) := by decide +kernel
theorem dX6_statement_247 : decode cX6_statement 247 = .ok (.aload_n 0, 1) := by decide +kernel
theorem dX6_statement_248 : decode cX6_statement 248 = .ok (.aload_n 1, 1) := by decide +kernel
theorem dX6_statement_249 : decode cX6_statement 249 = .ok (.iconst 1, 1) := by decide +kernel
theorem dX6_statement_250 : decode cX6_statement 250 = .ok (.invokevirtual 111, 3) := by decide +kernel
theorem dX6_statement_253 : decode cX6_statement 253 = .ok (.ifCond .eq 7, 3) := by decide +kernel
theorem dX6_statement_256 : decode cX6_statement 256 = .ok (.iconst 1, 1) := by decide +kernel
theorem dX6_statement_257 : decode cX6_statement 257 = .ok (.goto 4, 3) := by decide +kernel
theorem dX6_statement_260 : decode cX6_statement 260 = .ok (.iconst 0, 1) := by decide +kernel
theorem dX6_statement_261 : decode cX6_statement 261 = .ok (.ireturn, 1) := by decide +kernel
theorem dX6_statement_262 : decode cX6_statement 262 = .ok (.aload_n 0, 1) := by decide +kernel
theorem dX6_statement_263 : decode cX6_statement 263 = .ok (.iload_n 2, 1) := by decide +kernel
theorem dX6_statement_264 : decode cX6_statement 264 = .ok (.invokevirtual 76, 3) := by decide +kernel
theorem dX6_statement_267 : decode cX6_statement 267 = .ok (.ifCond .eq 16, 3) := by decide +kernel
theorem dX6_statement_270 : decode cX6_statement 270 = .ok (.aload_n 0, 1) := by decide +kernel
theorem dX6_statement_271 : decode cX6_statement 271 = .ok (.aload_n 1, 1) := by decide +kernel
theorem dX6_statement_272 : decode cX6_statement 272 = .ok (.iconst 2, 1) := by decide +kernel
theorem dX6_statement_273 : decode cX6_statement 273 = .ok (.invokevirtual 111, 3) := by decide +kernel
theorem dX6_statement_276 : decode cX6_statement 276 = .ok (.ifCond .eq 7, 3) := by decide +kernel
theorem dX6_statement_279 : decode cX6_statement 279 = .ok (.iconst 1, 1) := by decide +kernel
theorem dX6_statement_280 : decode cX6_statement 280 = .ok (.goto 4, 3) := by decide +kernel
theorem dX6_statement_283 : decode cX6_statement 283 = .ok (.iconst 0, 1) := by decide +kernel
theorem dX6_statement_284 : decode cX6_statement 284 = .ok (.ireturn, 1) := by decide +kernel
theorem dX6_statement_285 : decode cX6_statement 285 = .ok (.aload_n 0, 1) := by decide +kernel
theorem dX6_statement_286 : decode cX6_statement 286 = .ok (.iload_n 2, 1) := by decide +kernel
theorem dX6_statement_287 : decode cX6_statement 287 = .ok (.invokevirtual 76, 3) := by decide +kernel
theorem dX6_statement_290 : decode cX6_statement 290 = .ok (.ifCond .eq 15, 3) := by decide +kernel
theorem dX6_statement_293 : decode cX6_statement 293 = .ok (.aload_n 0, 1) := by decide +kernel
theorem dX6_statement_294 : decode cX6_statement 294 = .ok (.aload_n 1, 1) := by decide +kernel
theorem dX6_statement_295 : decode cX6_statement 295 = .ok (.invokevirtual 114, 3) := by decide +kernel
theorem dX6_statement_298 : decode cX6_statement 298 = .ok (.ifCond .eq 7, 3) := by decide +kernel
theorem dX6_statement_301 : decode cX6_statement 301 = .ok (.iconst 1, 1) := by decide +kernel
theorem dX6_statement_302 : decode cX6_statement 302 = .ok (.goto 4, 3) := by decide +kernel
theorem dX6_statement_305 : decode cX6_statement 305 = .ok (.iconst 0, 1) := by decide +kernel
theorem dX6_statement_306 : decode cX6_statement 306 = .ok (.ireturn, 1) := by decide +kernel
theorem dX6_statement_307 : decode cX6_statement 307 = .ok (.aload_n 0, 1) := by decide +kernel
theorem dX6_statement_308 : decode cX6_statement 308 = .ok (.iload_n 2, 1) := by decide +kernel
theorem dX6_statement_309 : decode cX6_statement 309 = .ok (.invokevirtual 76, 3) := by decide +kernel
theorem dX6_statement_312 : decode cX6_statement 312 = .ok (.ifCond .eq 30, 3) := by decide +kernel
theorem dX6_statement_315 : decode cX6_statement 315 = .ok (.aload_n 1, 1) := by decide +kernel
theorem dX6_statement_316 : decode cX6_statement 316 = .ok (.getfield 117, 3) := by decide +kernel
theorem dX6_statement_319 : decode cX6_statement 319 = .ok (.iconst 0, 1) := by decide +kernel
theorem dX6_statement_320 : decode cX6_statement 320 = .ok (.invokevirtual 123, 3) := by decide +kernel
theorem dX6_statement_323 : decode cX6_statement 323 = .ok (.ifCond .eq 19, 3) := by decide +kernel
theorem dX6_statement_326 : decode cX6_statement 326 = .ok (.aload_n 0, 1) := by decide +kernel
theorem dX6_statement_327 : decode cX6_statement 327 = .ok (.aload_n 1, 1) := by decide +kernel
theorem dX6_statement_328 : decode cX6_statement 328 = .ok (.getfield 117, 3) := by decide +kernel
theorem dX6_statement_331 : decode cX6_statement 331 = .ok (.iconst 0, 1) := by decide +kernel
theorem dX6_statement_332 : decode cX6_statement 332 = .ok (.invokevirtual 126, 3) := by decide +kernel
theorem dX6_statement_335 : decode cX6_statement 335 = .ok (.ifCond .eq 7, 3) := by decide +kernel
theorem dX6_statement_338 : decode cX6_statement 338 = .ok (.iconst 1, 1) := by decide +kernel
theorem dX6_statement_339 : decode cX6_statement 339 = .ok (.goto 4, 3) := by decide +kernel
theorem dX6_statement_342 : decode cX6_statement 342 = .ok (.iconst 0, 1) := by decide +kernel
theorem dX6_statement_343 : decode cX6_statement 343 = .ok (.ireturn, 1) := by decide +kernel
theorem dX6_statement_344 : decode cX6_statement 344 = .ok (.aload_n 0, 1) := by decide +kernel
theorem dX6_statement_345 : decode cX6_statement 345 = .ok (.iload_n 2, 1) := by decide +kernel
theorem dX6_statement_346 : decode cX6_statement 346 = .ok (.invokevirtual 76, 3) := by decide +kernel
theorem dX6_statement_349 : decode cX6_statement 349 = .ok (.ifCond .eq 30, 3) := by decide +kernel
theorem dX6_statement_352 : decode cX6_statement 352 = .ok (.aload_n 1, 1) := by decide +kernel
theorem dX6_statement_353 : decode cX6_statement 353 = .ok (.getfield 117, 3) := by decide +kernel
theorem dX6_statement_356 : decode cX6_statement 356 = .ok (.iconst 1, 1) := by decide +kernel
theorem dX6_statement_357 : decode cX6_statement 357 = .ok (.invokevirtual 123, 3) := by decide +kernel
theorem dX6_statement_360 : decode cX6_statement 360 = .ok (.ifCond .eq 19, 3) := by decide +kernel
theorem dX6_statement_363 : decode cX6_statement 363 = .ok (.aload_n 0, 1) := by decide +kernel
theorem dX6_statement_364 : decode cX6_statement 364 = .ok (.aload_n 1, 1) := by decide +kernel
theorem dX6_statement_365 : decode cX6_statement 365 = .ok (.getfield 117, 3) := by decide +kernel
theorem dX6_statement_368 : decode cX6_statement 368 = .ok (.iconst 0, 1) := by decide +kernel
theorem dX6_statement_369 : decode cX6_statement 369 = .ok (.invokevirtual 126, 3) := by decide +kernel
theorem dX6_statement_372 : decode cX6_statement 372 = .ok (.ifCond .eq 7, 3) := by decide +kernel
theorem dX6_statement_375 : decode cX6_statement 375 = .ok (.iconst 1, 1) := by decide +kernel
theorem dX6_statement_376 : decode cX6_statement 376 = .ok (.goto 4, 3) := by decide +kernel
theorem dX6_statement_379 : decode cX6_statement 379 = .ok (.iconst 0, 1) := by decide +kernel
theorem dX6_statement_380 : decode cX6_statement 380 = .ok (.ireturn, 1) := by decide +kernel
theorem dX6_statement_381 : decode cX6_statement 381 = .ok (.aload_n 0, 1) := by decide +kernel
theorem dX6_statement_382 : decode cX6_statement 382 = .ok (.iload_n 2, 1) := by decide +kernel
theorem dX6_statement_383 : decode cX6_statement 383 = .ok (.invokevirtual 76, 3) := by decide +kernel
theorem dX6_statement_386 : decode cX6_statement 386 = .ok (.ifCond .eq 15, 3) := by decide +kernel
theorem dX6_statement_389 : decode cX6_statement 389 = .ok (.aload_n 0, 1) := by decide +kernel
theorem dX6_statement_390 : decode cX6_statement 390 = .ok (.aload_n 1, 1) := by decide +kernel
theorem dX6_statement_391 : decode cX6_statement 391 = .ok (.invokevirtual 130, 3) := by decide +kernel
theorem dX6_statement_394 : decode cX6_statement 394 = .ok (.ifCond .eq 7, 3) := by decide +kernel
theorem dX6_statement_397 : decode cX6_statement 397 = .ok (.iconst 1, 1) := by decide +kernel
theorem dX6_statement_398 : decode cX6_statement 398 = .ok (.goto 4, 3) := by decide +kernel
theorem dX6_statement_401 : decode cX6_statement 401 = .ok (.iconst 0, 1) := by decide +kernel
theorem dX6_statement_402 : decode cX6_statement 402 = .ok (.ireturn, 1) := by decide +kernel
theorem dX6_statement_403 : decode cX6_statement 403 = .ok (.aload_n 0, 1) := by decide +kernel
theorem dX6_statement_404 : decode cX6_statement 404 = .ok (.iload_n 2, 1) := by decide +kernel
theorem dX6_statement_405 : decode cX6_statement 405 = .ok (.invokevirtual 76, 3) := by decide +kernel
theorem dX6_statement_408 : decode cX6_statement 408 = .ok (.ifCond .eq 15, 3) := by decide +kernel
theorem dX6_statement_411 : decode cX6_statement 411 = .ok (.aload_n 0, 1) := by decide +kernel
theorem dX6_statement_412 : decode cX6_statement 412 = .ok (.aload_n 1, 1) := by decide +kernel
theorem dX6_statement_413 : decode cX6_statement 413 = .ok (.invokevirtual 133, 3) := by decide +kernel
theorem dX6_statement_416 : decode cX6_statement 416 = .ok (.ifCond .eq 7, 3) := by decide +kernel
theorem dX6_statement_419 : decode cX6_statement 419 = .ok (.iconst 1, 1) := by decide +kernel
theorem dX6_statement_420 : decode cX6_statement 420 = .ok (.goto 4, 3) := by decide +kernel
theorem dX6_statement_423 : decode cX6_statement 423 = .ok (.iconst 0, 1) := by decide +kernel
theorem dX6_statement_424 : decode cX6_statement 424 = .ok (.ireturn, 1) := by decide +kernel
theorem dX6_statement_425 : decode cX6_statement 425 = .ok (.aload_n 0, 1) := by decide +kernel
theorem dX6_statement_426 : decode cX6_statement 426 = .ok (.iload_n 2, 1) := by decide +kernel
theorem dX6_statement_427 : decode cX6_statement 427 = .ok (.invokevirtual 76, 3) := by decide +kernel
theorem dX6_statement_430 : decode cX6_statement 430 = .ok (.ifCond .eq 15, 3) := by decide +kernel
theorem dX6_statement_433 : decode cX6_statement 433 = .ok (.aload_n 0, 1) := by decide +kernel
theorem dX6_statement_434 : decode cX6_statement 434 = .ok (.aload_n 1, 1) := by decide +kernel
theorem dX6_statement_435 : decode cX6_statement 435 = .ok (.invokevirtual 136, 3) := by decide +kernel
theorem dX6_statement_438 : decode cX6_statement 438 = .ok (.ifCond .eq 7, 3) := by decide +kernel
theorem dX6_statement_441 : decode cX6_statement 441 = .ok (.iconst 1, 1) := by decide +kernel
theorem dX6_statement_442 : decode cX6_statement 442 = .ok (.goto 4, 3) := by decide +kernel
theorem dX6_statement_445 : decode cX6_statement 445 = .ok (.iconst 0, 1) := by decide +kernel
theorem dX6_statement_446 : decode cX6_statement 446 = .ok (.ireturn, 1) := by decide +kernel
theorem dX6_statement_447 : decode cX6_statement 447 = .ok (.aload_n 0, 1) := by decide +kernel
theorem dX6_statement_448 : decode cX6_statement 448 = .ok (.invokevirtual 139, 3) := by decide +kernel
theorem dX6_statement_451 : decode cX6_statement 451 = .ok (.ireturn, 1) := by decide +kernel
set_option maxRecDepth 100000 in
set_option maxHeartbeats 4000000 in
theorem X6_statement_J34_ok {g : Gm} {w : Wd} (C : Cx g w RX6 cX6_statement 3 (some .boolean)) {lv : Nat} (hlv : 39 < lv) {N : Nat} {l0 : Nat} {m : Mem} {out : (Int × Mem)} (h : X6_statement_J34 N l0 m = some out) : Jd g w 3 (rmL lv 0 0) (Qm g w (some (vI out.1)) out.2) 34 [some (vR l0), none, none] [] 312 m 0 0 := by
  unfold X6_statement_J34 at h
  refine j_aload_n C dX6_statement_34 rfl ?_
  refine j_bipush C dX6_statement_35 rfl ?_
  refine j_aload_n C dX6_statement_37 rfl ?_
  refine j_getI C dX6_statement_38 CF6 (by decide) fl_X6_25 rfl rfl h (fun t3 h => ?_)
  obtain ⟨p4, ep4, h⟩ := bind_some h
  have qp4 := X6_refuse_ct ep4
  refine j_cVI C dX6_statement_41 vl_X6_94 CF6 rfl qp4.1 qp4.2 (by omega) rfl rfl (Nat.le_of_ble_eq_true rfl) ?_
  obtain ⟨r5, er5, h⟩ := bind_some h
  have e := Option.some.inj h
  subst e
  exact j_rz C dX6_statement_44 rfl (retZ_some er5) rfl
set_option maxRecDepth 100000 in
set_option maxHeartbeats 4000000 in
theorem X6_statement_J447_ok {g : Gm} {w : Wd} (C : Cx g w RX6 cX6_statement 3 (some .boolean)) {lv : Nat} (hlv : 39 < lv) {N : Nat} {l0 : Nat} {m : Mem} {out : (Int × Mem)} (h : X6_statement_J447 N l0 m = some out) : Jd g w 3 (rmL lv 0 0) (Qm g w (some (vI out.1)) out.2) 447 [some (vR l0), none, none] [] 312 m 0 0 := by
  unfold X6_statement_J447 at h
  refine j_aload_n C dX6_statement_447 rfl ?_
  obtain ⟨p15, ep15, h⟩ := bind_some h
  have qp15 := X6_unexpected_ct ep15
  refine j_cVI C dX6_statement_448 vl_X6_139 CF6 rfl qp15.1 qp15.2 (by omega) rfl rfl (Nat.le_of_ble_eq_true rfl) ?_
  obtain ⟨r16, er16, h⟩ := bind_some h
  have e := Option.some.inj h
  subst e
  exact j_rz C dX6_statement_451 rfl (retZ_some er16) rfl
set_option maxRecDepth 100000 in
set_option maxHeartbeats 4000000 in
theorem X6_statement_J16_ok {g : Gm} {w : Wd} (C : Cx g w RX6 cX6_statement 3 (some .boolean)) {lv : Nat} (hlv : 39 < lv) {N : Nat} {l0 : Nat} {l1 : Nat} {s0 : Int} {m : Mem} {out : (Int × Mem)} (h : X6_statement_J16 N l0 l1 s0 m = some out) : Jd g w 3 (rmL lv 0 0) (Qm g w (some (vI out.1)) out.2) 16 [some (vR l0), some (vR l1), none] [vI s0] 312 m 0 0 := by
  unfold X6_statement_J16 at h
  refine j_istore_n (ls' := [some (vR _), some (vR _), some (vI _)]) C dX6_statement_16 (by decide) rfl ?_
  refine j_aload_n C dX6_statement_17 rfl ?_
  refine j_getI C dX6_statement_18 CF6 (by decide) fl_X6_49 rfl rfl h (fun t2 h => ?_)
  refine j_bipush C dX6_statement_21 rfl ?_
  refine j_icmp_ge C 34 dX6_statement_23 rfl h (fun c129 h => ?_) (fun c129 h => ?_)
  · refine j_mask [true, false, false] (ls' := [some (vR _), none, none]) rfl ?_
    exact X6_statement_J34_ok C hlv h
  · refine j_aload_n C dX6_statement_26 rfl ?_
    refine j_iload_n C dX6_statement_27 rfl ?_
    obtain ⟨p6, ep6, h⟩ := bind_some h
    have qp6 := X6_isOneTooMany_ct ep6
    refine j_cSI C dX6_statement_28 sl_X6_90 qp6 (by omega) rfl rfl (Nat.le_of_ble_eq_true rfl) ?_
    refine j_if_eq C 45 dX6_statement_31 rfl h (fun c128 h => ?_) (fun c128 h => ?_)
    · refine j_iload_n C dX6_statement_45 rfl ?_
      rcases ite_cases h with ⟨c14, h⟩ | ⟨c14, h⟩
      · refine j_tsIn C 120 (1) dX6_statement_46 c14 rfl rfl rfl ?_
        refine j_aload_n C dX6_statement_120 rfl ?_
        refine j_iload_n C dX6_statement_121 rfl ?_
        obtain ⟨p7, ep7, h⟩ := bind_some h
        have qp7 := X6_word_ct ep7
        refine j_cVI C dX6_statement_122 vl_X6_76 CF6 rfl qp7.1 qp7.2 (by omega) rfl rfl (Nat.le_of_ble_eq_true rfl) ?_
        refine j_if_eq C 140 dX6_statement_125 rfl h (fun c13 h => ?_) (fun c13 h => ?_)
        · refine j_iconst C dX6_statement_140 rfl ?_
          obtain ⟨r8, er8, h⟩ := bind_some h
          have e := Option.some.inj h
          subst e
          exact j_rz C dX6_statement_141 rfl (retZ_some er8) rfl
        · refine j_aload_n C dX6_statement_128 rfl ?_
          refine j_aload_n C dX6_statement_129 rfl ?_
          obtain ⟨p9, ep9, h⟩ := bind_some h
          have qp9 := X6_height_ct ep9
          refine j_cVI C dX6_statement_130 vl_X6_97 CF6 rfl qp9.1 qp9.2 (by omega) rfl rfl (Nat.le_of_ble_eq_true rfl) ?_
          refine j_if_eq C 140 dX6_statement_133 rfl h (fun c12 h => ?_) (fun c12 h => ?_)
          · refine j_iconst C dX6_statement_140 rfl ?_
            obtain ⟨r10, er10, h⟩ := bind_some h
            have e := Option.some.inj h
            subst e
            exact j_rz C dX6_statement_141 rfl (retZ_some er10) rfl
          · refine j_iconst C dX6_statement_136 rfl ?_
            refine j_goto C 141 dX6_statement_137 rfl ?_
            obtain ⟨r11, er11, h⟩ := bind_some h
            have e := Option.some.inj h
            subst e
            exact j_rz C dX6_statement_141 rfl (retZ_some er11) rfl
      rcases ite_cases h with ⟨c17, h⟩ | ⟨c17, h⟩
      · refine j_tsIn C 447 (2) dX6_statement_46 c17 rfl rfl rfl ?_
        refine j_mask [true, false, false] (ls' := [some (vR _), none, none]) rfl ?_
        exact X6_statement_J447_ok C hlv h
      rcases ite_cases h with ⟨c25, h⟩ | ⟨c25, h⟩
      · refine j_tsIn C 142 (3) dX6_statement_46 c25 rfl rfl rfl ?_
        refine j_aload_n C dX6_statement_142 rfl ?_
        refine j_iload_n C dX6_statement_143 rfl ?_
        obtain ⟨p18, ep18, h⟩ := bind_some h
        have qp18 := X6_word_ct ep18
        refine j_cVI C dX6_statement_144 vl_X6_76 CF6 rfl qp18.1 qp18.2 (by omega) rfl rfl (Nat.le_of_ble_eq_true rfl) ?_
        refine j_if_eq C 162 dX6_statement_147 rfl h (fun c24 h => ?_) (fun c24 h => ?_)
        · refine j_iconst C dX6_statement_162 rfl ?_
          obtain ⟨r19, er19, h⟩ := bind_some h
          have e := Option.some.inj h
          subst e
          exact j_rz C dX6_statement_163 rfl (retZ_some er19) rfl
        · refine j_aload_n C dX6_statement_150 rfl ?_
          refine j_aload_n C dX6_statement_151 rfl ?_
          obtain ⟨p20, ep20, h⟩ := bind_some h
          have qp20 := X6_wallOf_ct ep20
          refine j_cVI C dX6_statement_152 vl_X6_100 CF6 rfl qp20.1 qp20.2 (by omega) rfl rfl (Nat.le_of_ble_eq_true rfl) ?_
          refine j_if_eq C 162 dX6_statement_155 rfl h (fun c23 h => ?_) (fun c23 h => ?_)
          · refine j_iconst C dX6_statement_162 rfl ?_
            obtain ⟨r21, er21, h⟩ := bind_some h
            have e := Option.some.inj h
            subst e
            exact j_rz C dX6_statement_163 rfl (retZ_some er21) rfl
          · refine j_iconst C dX6_statement_158 rfl ?_
            refine j_goto C 163 dX6_statement_159 rfl ?_
            obtain ⟨r22, er22, h⟩ := bind_some h
            have e := Option.some.inj h
            subst e
            exact j_rz C dX6_statement_163 rfl (retZ_some er22) rfl
      rcases ite_cases h with ⟨c33, h⟩ | ⟨c33, h⟩
      · refine j_tsIn C 164 (4) dX6_statement_46 c33 rfl rfl rfl ?_
        refine j_aload_n C dX6_statement_164 rfl ?_
        refine j_iload_n C dX6_statement_165 rfl ?_
        obtain ⟨p26, ep26, h⟩ := bind_some h
        have qp26 := X6_word_ct ep26
        refine j_cVI C dX6_statement_166 vl_X6_76 CF6 rfl qp26.1 qp26.2 (by omega) rfl rfl (Nat.le_of_ble_eq_true rfl) ?_
        refine j_if_eq C 184 dX6_statement_169 rfl h (fun c32 h => ?_) (fun c32 h => ?_)
        · refine j_iconst C dX6_statement_184 rfl ?_
          obtain ⟨r27, er27, h⟩ := bind_some h
          have e := Option.some.inj h
          subst e
          exact j_rz C dX6_statement_185 rfl (retZ_some er27) rfl
        · refine j_aload_n C dX6_statement_172 rfl ?_
          refine j_aload_n C dX6_statement_173 rfl ?_
          obtain ⟨p28, ep28, h⟩ := bind_some h
          have qp28 := X6_house_ct ep28
          refine j_cVI C dX6_statement_174 vl_X6_103 CF6 rfl qp28.1 qp28.2 (by omega) rfl rfl (Nat.le_of_ble_eq_true rfl) ?_
          refine j_if_eq C 184 dX6_statement_177 rfl h (fun c31 h => ?_) (fun c31 h => ?_)
          · refine j_iconst C dX6_statement_184 rfl ?_
            obtain ⟨r29, er29, h⟩ := bind_some h
            have e := Option.some.inj h
            subst e
            exact j_rz C dX6_statement_185 rfl (retZ_some er29) rfl
          · refine j_iconst C dX6_statement_180 rfl ?_
            refine j_goto C 185 dX6_statement_181 rfl ?_
            obtain ⟨r30, er30, h⟩ := bind_some h
            have e := Option.some.inj h
            subst e
            exact j_rz C dX6_statement_185 rfl (retZ_some er30) rfl
      rcases ite_cases h with ⟨c41, h⟩ | ⟨c41, h⟩
      · refine j_tsIn C 186 (5) dX6_statement_46 c41 rfl rfl rfl ?_
        refine j_aload_n C dX6_statement_186 rfl ?_
        refine j_iload_n C dX6_statement_187 rfl ?_
        obtain ⟨p34, ep34, h⟩ := bind_some h
        have qp34 := X6_word_ct ep34
        refine j_cVI C dX6_statement_188 vl_X6_76 CF6 rfl qp34.1 qp34.2 (by omega) rfl rfl (Nat.le_of_ble_eq_true rfl) ?_
        refine j_if_eq C 206 dX6_statement_191 rfl h (fun c40 h => ?_) (fun c40 h => ?_)
        · refine j_iconst C dX6_statement_206 rfl ?_
          obtain ⟨r35, er35, h⟩ := bind_some h
          have e := Option.some.inj h
          subst e
          exact j_rz C dX6_statement_207 rfl (retZ_some er35) rfl
        · refine j_aload_n C dX6_statement_194 rfl ?_
          refine j_aload_n C dX6_statement_195 rfl ?_
          obtain ⟨p36, ep36, h⟩ := bind_some h
          have qp36 := X6_cisternOf_ct ep36
          refine j_cVI C dX6_statement_196 vl_X6_106 CF6 rfl qp36.1 qp36.2 (by omega) rfl rfl (Nat.le_of_ble_eq_true rfl) ?_
          refine j_if_eq C 206 dX6_statement_199 rfl h (fun c39 h => ?_) (fun c39 h => ?_)
          · refine j_iconst C dX6_statement_206 rfl ?_
            obtain ⟨r37, er37, h⟩ := bind_some h
            have e := Option.some.inj h
            subst e
            exact j_rz C dX6_statement_207 rfl (retZ_some er37) rfl
          · refine j_iconst C dX6_statement_202 rfl ?_
            refine j_goto C 207 dX6_statement_203 rfl ?_
            obtain ⟨r38, er38, h⟩ := bind_some h
            have e := Option.some.inj h
            subst e
            exact j_rz C dX6_statement_207 rfl (retZ_some er38) rfl
      rcases ite_cases h with ⟨c52, h⟩ | ⟨c52, h⟩
      · refine j_tsIn C 208 (6) dX6_statement_46 c52 rfl rfl rfl ?_
        refine j_aload_n C dX6_statement_208 rfl ?_
        refine j_iload_n C dX6_statement_209 rfl ?_
        obtain ⟨p42, ep42, h⟩ := bind_some h
        have qp42 := X6_word_ct ep42
        refine j_cVI C dX6_statement_210 vl_X6_76 CF6 rfl qp42.1 qp42.2 (by omega) rfl rfl (Nat.le_of_ble_eq_true rfl) ?_
        refine j_if_eq C 237 dX6_statement_213 rfl h (fun c51 h => ?_) (fun c51 h => ?_)
        · refine j_iconst C dX6_statement_237 rfl ?_
          obtain ⟨r43, er43, h⟩ := bind_some h
          have e := Option.some.inj h
          subst e
          exact j_rz C dX6_statement_238 rfl (retZ_some er43) rfl
        · refine j_aload_n C dX6_statement_216 rfl ?_
          refine j_aload_n C dX6_statement_217 rfl ?_
          obtain ⟨p44, ep44, h⟩ := bind_some h
          have qp44 := X6_name_ct ep44
          refine j_cVI C dX6_statement_218 vl_X6_109 CF6 rfl qp44.1 qp44.2 (by omega) rfl rfl (Nat.le_of_ble_eq_true rfl) ?_
          refine j_if_eq C 237 dX6_statement_221 rfl h (fun c50 h => ?_) (fun c50 h => ?_)
          · refine j_iconst C dX6_statement_237 rfl ?_
            obtain ⟨r45, er45, h⟩ := bind_some h
            have e := Option.some.inj h
            subst e
            exact j_rz C dX6_statement_238 rfl (retZ_some er45) rfl
          · refine j_aload_n C dX6_statement_224 rfl ?_
            refine j_aload_n C dX6_statement_225 rfl ?_
            refine j_iconst C dX6_statement_226 rfl ?_
            obtain ⟨p46, ep46, h⟩ := bind_some h
            have qp46 := X6_thingOf_ct ep46
            refine j_cVI C dX6_statement_227 vl_X6_111 CF6 rfl qp46.1 qp46.2 (by omega) rfl rfl (Nat.le_of_ble_eq_true rfl) ?_
            refine j_if_eq C 237 dX6_statement_230 rfl h (fun c49 h => ?_) (fun c49 h => ?_)
            · refine j_iconst C dX6_statement_237 rfl ?_
              obtain ⟨r47, er47, h⟩ := bind_some h
              have e := Option.some.inj h
              subst e
              exact j_rz C dX6_statement_238 rfl (retZ_some er47) rfl
            · refine j_iconst C dX6_statement_233 rfl ?_
              refine j_goto C 238 dX6_statement_234 rfl ?_
              obtain ⟨r48, er48, h⟩ := bind_some h
              have e := Option.some.inj h
              subst e
              exact j_rz C dX6_statement_238 rfl (retZ_some er48) rfl
      rcases ite_cases h with ⟨c53, h⟩ | ⟨c53, h⟩
      · refine j_tsIn C 447 (7) dX6_statement_46 c53 rfl rfl rfl ?_
        refine j_mask [true, false, false] (ls' := [some (vR _), none, none]) rfl ?_
        exact X6_statement_J447_ok C hlv h
      rcases ite_cases h with ⟨c61, h⟩ | ⟨c61, h⟩
      · refine j_tsIn C 239 (8) dX6_statement_46 c61 rfl rfl rfl ?_
        refine j_aload_n C dX6_statement_239 rfl ?_
        refine j_iload_n C dX6_statement_240 rfl ?_
        obtain ⟨p54, ep54, h⟩ := bind_some h
        have qp54 := X6_word_ct ep54
        refine j_cVI C dX6_statement_241 vl_X6_76 CF6 rfl qp54.1 qp54.2 (by omega) rfl rfl (Nat.le_of_ble_eq_true rfl) ?_
        refine j_if_eq C 260 dX6_statement_244 rfl h (fun c60 h => ?_) (fun c60 h => ?_)
        · refine j_iconst C dX6_statement_260 rfl ?_
          obtain ⟨r55, er55, h⟩ := bind_some h
          have e := Option.some.inj h
          subst e
          exact j_rz C dX6_statement_261 rfl (retZ_some er55) rfl
        · refine j_aload_n C dX6_statement_247 rfl ?_
          refine j_aload_n C dX6_statement_248 rfl ?_
          refine j_iconst C dX6_statement_249 rfl ?_
          obtain ⟨p56, ep56, h⟩ := bind_some h
          have qp56 := X6_thingOf_ct ep56
          refine j_cVI C dX6_statement_250 vl_X6_111 CF6 rfl qp56.1 qp56.2 (by omega) rfl rfl (Nat.le_of_ble_eq_true rfl) ?_
          refine j_if_eq C 260 dX6_statement_253 rfl h (fun c59 h => ?_) (fun c59 h => ?_)
          · refine j_iconst C dX6_statement_260 rfl ?_
            obtain ⟨r57, er57, h⟩ := bind_some h
            have e := Option.some.inj h
            subst e
            exact j_rz C dX6_statement_261 rfl (retZ_some er57) rfl
          · refine j_iconst C dX6_statement_256 rfl ?_
            refine j_goto C 261 dX6_statement_257 rfl ?_
            obtain ⟨r58, er58, h⟩ := bind_some h
            have e := Option.some.inj h
            subst e
            exact j_rz C dX6_statement_261 rfl (retZ_some er58) rfl
      rcases ite_cases h with ⟨c69, h⟩ | ⟨c69, h⟩
      · refine j_tsIn C 262 (9) dX6_statement_46 c69 rfl rfl rfl ?_
        refine j_aload_n C dX6_statement_262 rfl ?_
        refine j_iload_n C dX6_statement_263 rfl ?_
        obtain ⟨p62, ep62, h⟩ := bind_some h
        have qp62 := X6_word_ct ep62
        refine j_cVI C dX6_statement_264 vl_X6_76 CF6 rfl qp62.1 qp62.2 (by omega) rfl rfl (Nat.le_of_ble_eq_true rfl) ?_
        refine j_if_eq C 283 dX6_statement_267 rfl h (fun c68 h => ?_) (fun c68 h => ?_)
        · refine j_iconst C dX6_statement_283 rfl ?_
          obtain ⟨r63, er63, h⟩ := bind_some h
          have e := Option.some.inj h
          subst e
          exact j_rz C dX6_statement_284 rfl (retZ_some er63) rfl
        · refine j_aload_n C dX6_statement_270 rfl ?_
          refine j_aload_n C dX6_statement_271 rfl ?_
          refine j_iconst C dX6_statement_272 rfl ?_
          obtain ⟨p64, ep64, h⟩ := bind_some h
          have qp64 := X6_thingOf_ct ep64
          refine j_cVI C dX6_statement_273 vl_X6_111 CF6 rfl qp64.1 qp64.2 (by omega) rfl rfl (Nat.le_of_ble_eq_true rfl) ?_
          refine j_if_eq C 283 dX6_statement_276 rfl h (fun c67 h => ?_) (fun c67 h => ?_)
          · refine j_iconst C dX6_statement_283 rfl ?_
            obtain ⟨r65, er65, h⟩ := bind_some h
            have e := Option.some.inj h
            subst e
            exact j_rz C dX6_statement_284 rfl (retZ_some er65) rfl
          · refine j_iconst C dX6_statement_279 rfl ?_
            refine j_goto C 284 dX6_statement_280 rfl ?_
            obtain ⟨r66, er66, h⟩ := bind_some h
            have e := Option.some.inj h
            subst e
            exact j_rz C dX6_statement_284 rfl (retZ_some er66) rfl
      rcases ite_cases h with ⟨c77, h⟩ | ⟨c77, h⟩
      · refine j_tsIn C 285 (10) dX6_statement_46 c77 rfl rfl rfl ?_
        refine j_aload_n C dX6_statement_285 rfl ?_
        refine j_iload_n C dX6_statement_286 rfl ?_
        obtain ⟨p70, ep70, h⟩ := bind_some h
        have qp70 := X6_word_ct ep70
        refine j_cVI C dX6_statement_287 vl_X6_76 CF6 rfl qp70.1 qp70.2 (by omega) rfl rfl (Nat.le_of_ble_eq_true rfl) ?_
        refine j_if_eq C 305 dX6_statement_290 rfl h (fun c76 h => ?_) (fun c76 h => ?_)
        · refine j_iconst C dX6_statement_305 rfl ?_
          obtain ⟨r71, er71, h⟩ := bind_some h
          have e := Option.some.inj h
          subst e
          exact j_rz C dX6_statement_306 rfl (retZ_some er71) rfl
        · refine j_aload_n C dX6_statement_293 rfl ?_
          refine j_aload_n C dX6_statement_294 rfl ?_
          obtain ⟨p72, ep72, h⟩ := bind_some h
          have qp72 := X6_letters_ct ep72
          refine j_cVI C dX6_statement_295 vl_X6_114 CF6 rfl qp72.1 qp72.2 (by omega) rfl rfl (Nat.le_of_ble_eq_true rfl) ?_
          refine j_if_eq C 305 dX6_statement_298 rfl h (fun c75 h => ?_) (fun c75 h => ?_)
          · refine j_iconst C dX6_statement_305 rfl ?_
            obtain ⟨r73, er73, h⟩ := bind_some h
            have e := Option.some.inj h
            subst e
            exact j_rz C dX6_statement_306 rfl (retZ_some er73) rfl
          · refine j_iconst C dX6_statement_301 rfl ?_
            refine j_goto C 306 dX6_statement_302 rfl ?_
            obtain ⟨r74, er74, h⟩ := bind_some h
            have e := Option.some.inj h
            subst e
            exact j_rz C dX6_statement_306 rfl (retZ_some er74) rfl
      rcases ite_cases h with ⟨c90, h⟩ | ⟨c90, h⟩
      · refine j_tsIn C 307 (11) dX6_statement_46 c90 rfl rfl rfl ?_
        refine j_aload_n C dX6_statement_307 rfl ?_
        refine j_iload_n C dX6_statement_308 rfl ?_
        obtain ⟨p78, ep78, h⟩ := bind_some h
        have qp78 := X6_word_ct ep78
        refine j_cVI C dX6_statement_309 vl_X6_76 CF6 rfl qp78.1 qp78.2 (by omega) rfl rfl (Nat.le_of_ble_eq_true rfl) ?_
        refine j_if_eq C 342 dX6_statement_312 rfl h (fun c89 h => ?_) (fun c89 h => ?_)
        · refine j_iconst C dX6_statement_342 rfl ?_
          obtain ⟨r79, er79, h⟩ := bind_some h
          have e := Option.some.inj h
          subst e
          exact j_rz C dX6_statement_343 rfl (retZ_some er79) rfl
        · refine j_aload_n C dX6_statement_315 rfl ?_
          refine j_getR C dX6_statement_316 CF5 (by decide) fl_X6_117 rfl rfl h (fun t80 h => ?_)
          refine j_iconst C dX6_statement_319 rfl ?_
          obtain ⟨p81, ep81, h⟩ := bind_some h
          have qp81 := X7_begin_ct ep81
          refine j_cVI C dX6_statement_320 vl_X6_123 CF7 rfl qp81.1 qp81.2 (by omega) rfl rfl (Nat.le_of_ble_eq_true rfl) ?_
          refine j_if_eq C 342 dX6_statement_323 rfl h (fun c88 h => ?_) (fun c88 h => ?_)
          · refine j_iconst C dX6_statement_342 rfl ?_
            obtain ⟨r82, er82, h⟩ := bind_some h
            have e := Option.some.inj h
            subst e
            exact j_rz C dX6_statement_343 rfl (retZ_some er82) rfl
          · refine j_aload_n C dX6_statement_326 rfl ?_
            refine j_aload_n C dX6_statement_327 rfl ?_
            refine j_getR C dX6_statement_328 CF5 (by decide) fl_X6_117 rfl rfl h (fun t83 h => ?_)
            refine j_iconst C dX6_statement_331 rfl ?_
            obtain ⟨p84, ep84, h⟩ := bind_some h
            have qp84 := X6_sum_ct (N := N) ep84
            refine j_cVI C dX6_statement_332 vl_X6_126 CF6 rfl qp84.1 qp84.2 (by omega) rfl rfl (Nat.le_of_ble_eq_true rfl) ?_
            refine j_if_eq C 342 dX6_statement_335 rfl h (fun c87 h => ?_) (fun c87 h => ?_)
            · refine j_iconst C dX6_statement_342 rfl ?_
              obtain ⟨r85, er85, h⟩ := bind_some h
              have e := Option.some.inj h
              subst e
              exact j_rz C dX6_statement_343 rfl (retZ_some er85) rfl
            · refine j_iconst C dX6_statement_338 rfl ?_
              refine j_goto C 343 dX6_statement_339 rfl ?_
              obtain ⟨r86, er86, h⟩ := bind_some h
              have e := Option.some.inj h
              subst e
              exact j_rz C dX6_statement_343 rfl (retZ_some er86) rfl
      rcases ite_cases h with ⟨c103, h⟩ | ⟨c103, h⟩
      · refine j_tsIn C 344 (12) dX6_statement_46 c103 rfl rfl rfl ?_
        refine j_aload_n C dX6_statement_344 rfl ?_
        refine j_iload_n C dX6_statement_345 rfl ?_
        obtain ⟨p91, ep91, h⟩ := bind_some h
        have qp91 := X6_word_ct ep91
        refine j_cVI C dX6_statement_346 vl_X6_76 CF6 rfl qp91.1 qp91.2 (by omega) rfl rfl (Nat.le_of_ble_eq_true rfl) ?_
        refine j_if_eq C 379 dX6_statement_349 rfl h (fun c102 h => ?_) (fun c102 h => ?_)
        · refine j_iconst C dX6_statement_379 rfl ?_
          obtain ⟨r92, er92, h⟩ := bind_some h
          have e := Option.some.inj h
          subst e
          exact j_rz C dX6_statement_380 rfl (retZ_some er92) rfl
        · refine j_aload_n C dX6_statement_352 rfl ?_
          refine j_getR C dX6_statement_353 CF5 (by decide) fl_X6_117 rfl rfl h (fun t93 h => ?_)
          refine j_iconst C dX6_statement_356 rfl ?_
          obtain ⟨p94, ep94, h⟩ := bind_some h
          have qp94 := X7_begin_ct ep94
          refine j_cVI C dX6_statement_357 vl_X6_123 CF7 rfl qp94.1 qp94.2 (by omega) rfl rfl (Nat.le_of_ble_eq_true rfl) ?_
          refine j_if_eq C 379 dX6_statement_360 rfl h (fun c101 h => ?_) (fun c101 h => ?_)
          · refine j_iconst C dX6_statement_379 rfl ?_
            obtain ⟨r95, er95, h⟩ := bind_some h
            have e := Option.some.inj h
            subst e
            exact j_rz C dX6_statement_380 rfl (retZ_some er95) rfl
          · refine j_aload_n C dX6_statement_363 rfl ?_
            refine j_aload_n C dX6_statement_364 rfl ?_
            refine j_getR C dX6_statement_365 CF5 (by decide) fl_X6_117 rfl rfl h (fun t96 h => ?_)
            refine j_iconst C dX6_statement_368 rfl ?_
            obtain ⟨p97, ep97, h⟩ := bind_some h
            have qp97 := X6_sum_ct (N := N) ep97
            refine j_cVI C dX6_statement_369 vl_X6_126 CF6 rfl qp97.1 qp97.2 (by omega) rfl rfl (Nat.le_of_ble_eq_true rfl) ?_
            refine j_if_eq C 379 dX6_statement_372 rfl h (fun c100 h => ?_) (fun c100 h => ?_)
            · refine j_iconst C dX6_statement_379 rfl ?_
              obtain ⟨r98, er98, h⟩ := bind_some h
              have e := Option.some.inj h
              subst e
              exact j_rz C dX6_statement_380 rfl (retZ_some er98) rfl
            · refine j_iconst C dX6_statement_375 rfl ?_
              refine j_goto C 380 dX6_statement_376 rfl ?_
              obtain ⟨r99, er99, h⟩ := bind_some h
              have e := Option.some.inj h
              subst e
              exact j_rz C dX6_statement_380 rfl (retZ_some er99) rfl
      rcases ite_cases h with ⟨c111, h⟩ | ⟨c111, h⟩
      · refine j_tsIn C 381 (13) dX6_statement_46 c111 rfl rfl rfl ?_
        refine j_aload_n C dX6_statement_381 rfl ?_
        refine j_iload_n C dX6_statement_382 rfl ?_
        obtain ⟨p104, ep104, h⟩ := bind_some h
        have qp104 := X6_word_ct ep104
        refine j_cVI C dX6_statement_383 vl_X6_76 CF6 rfl qp104.1 qp104.2 (by omega) rfl rfl (Nat.le_of_ble_eq_true rfl) ?_
        refine j_if_eq C 401 dX6_statement_386 rfl h (fun c110 h => ?_) (fun c110 h => ?_)
        · refine j_iconst C dX6_statement_401 rfl ?_
          obtain ⟨r105, er105, h⟩ := bind_some h
          have e := Option.some.inj h
          subst e
          exact j_rz C dX6_statement_402 rfl (retZ_some er105) rfl
        · refine j_aload_n C dX6_statement_389 rfl ?_
          refine j_aload_n C dX6_statement_390 rfl ?_
          obtain ⟨p106, ep106, h⟩ := bind_some h
          have qp106 := X6_drinks_ct ep106
          refine j_cVI C dX6_statement_391 vl_X6_130 CF6 rfl qp106.1 qp106.2 (by omega) rfl rfl (Nat.le_of_ble_eq_true rfl) ?_
          refine j_if_eq C 401 dX6_statement_394 rfl h (fun c109 h => ?_) (fun c109 h => ?_)
          · refine j_iconst C dX6_statement_401 rfl ?_
            obtain ⟨r107, er107, h⟩ := bind_some h
            have e := Option.some.inj h
            subst e
            exact j_rz C dX6_statement_402 rfl (retZ_some er107) rfl
          · refine j_iconst C dX6_statement_397 rfl ?_
            refine j_goto C 402 dX6_statement_398 rfl ?_
            obtain ⟨r108, er108, h⟩ := bind_some h
            have e := Option.some.inj h
            subst e
            exact j_rz C dX6_statement_402 rfl (retZ_some er108) rfl
      rcases ite_cases h with ⟨c119, h⟩ | ⟨c119, h⟩
      · refine j_tsIn C 403 (14) dX6_statement_46 c119 rfl rfl rfl ?_
        refine j_aload_n C dX6_statement_403 rfl ?_
        refine j_iload_n C dX6_statement_404 rfl ?_
        obtain ⟨p112, ep112, h⟩ := bind_some h
        have qp112 := X6_word_ct ep112
        refine j_cVI C dX6_statement_405 vl_X6_76 CF6 rfl qp112.1 qp112.2 (by omega) rfl rfl (Nat.le_of_ble_eq_true rfl) ?_
        refine j_if_eq C 423 dX6_statement_408 rfl h (fun c118 h => ?_) (fun c118 h => ?_)
        · refine j_iconst C dX6_statement_423 rfl ?_
          obtain ⟨r113, er113, h⟩ := bind_some h
          have e := Option.some.inj h
          subst e
          exact j_rz C dX6_statement_424 rfl (retZ_some er113) rfl
        · refine j_aload_n C dX6_statement_411 rfl ?_
          refine j_aload_n C dX6_statement_412 rfl ?_
          obtain ⟨p114, ep114, h⟩ := bind_some h
          have qp114 := X6_cloudy_ct ep114
          refine j_cVI C dX6_statement_413 vl_X6_133 CF6 rfl qp114.1 qp114.2 (by omega) rfl rfl (Nat.le_of_ble_eq_true rfl) ?_
          refine j_if_eq C 423 dX6_statement_416 rfl h (fun c117 h => ?_) (fun c117 h => ?_)
          · refine j_iconst C dX6_statement_423 rfl ?_
            obtain ⟨r115, er115, h⟩ := bind_some h
            have e := Option.some.inj h
            subst e
            exact j_rz C dX6_statement_424 rfl (retZ_some er115) rfl
          · refine j_iconst C dX6_statement_419 rfl ?_
            refine j_goto C 424 dX6_statement_420 rfl ?_
            obtain ⟨r116, er116, h⟩ := bind_some h
            have e := Option.some.inj h
            subst e
            exact j_rz C dX6_statement_424 rfl (retZ_some er116) rfl
      rcases ite_cases h with ⟨c127, h⟩ | ⟨c127, h⟩
      · refine j_tsIn C 425 (15) dX6_statement_46 c127 rfl rfl rfl ?_
        refine j_aload_n C dX6_statement_425 rfl ?_
        refine j_iload_n C dX6_statement_426 rfl ?_
        obtain ⟨p120, ep120, h⟩ := bind_some h
        have qp120 := X6_word_ct ep120
        refine j_cVI C dX6_statement_427 vl_X6_76 CF6 rfl qp120.1 qp120.2 (by omega) rfl rfl (Nat.le_of_ble_eq_true rfl) ?_
        refine j_if_eq C 445 dX6_statement_430 rfl h (fun c126 h => ?_) (fun c126 h => ?_)
        · refine j_iconst C dX6_statement_445 rfl ?_
          obtain ⟨r121, er121, h⟩ := bind_some h
          have e := Option.some.inj h
          subst e
          exact j_rz C dX6_statement_446 rfl (retZ_some er121) rfl
        · refine j_aload_n C dX6_statement_433 rfl ?_
          refine j_aload_n C dX6_statement_434 rfl ?_
          obtain ⟨p122, ep122, h⟩ := bind_some h
          have qp122 := X6_wring_ct ep122
          refine j_cVI C dX6_statement_435 vl_X6_136 CF6 rfl qp122.1 qp122.2 (by omega) rfl rfl (Nat.le_of_ble_eq_true rfl) ?_
          refine j_if_eq C 445 dX6_statement_438 rfl h (fun c125 h => ?_) (fun c125 h => ?_)
          · refine j_iconst C dX6_statement_445 rfl ?_
            obtain ⟨r123, er123, h⟩ := bind_some h
            have e := Option.some.inj h
            subst e
            exact j_rz C dX6_statement_446 rfl (retZ_some er123) rfl
          · refine j_iconst C dX6_statement_441 rfl ?_
            refine j_goto C 446 dX6_statement_442 rfl ?_
            obtain ⟨r124, er124, h⟩ := bind_some h
            have e := Option.some.inj h
            subst e
            exact j_rz C dX6_statement_446 rfl (retZ_some er124) rfl
      refine j_tsOut C 447 dX6_statement_46 (by omega) rfl ?_
      refine j_mask [true, false, false] (ls' := [some (vR _), none, none]) rfl ?_
      exact X6_statement_J447_ok C hlv h
    · refine j_mask [true, false, false] (ls' := [some (vR _), none, none]) rfl ?_
      exact X6_statement_J34_ok C hlv h
set_option maxRecDepth 100000 in
set_option maxHeartbeats 4000000 in
theorem X6_statement_ct {N : Nat} {l0 : Nat} {l1 : Nat} {m : Mem} {out : (Int × Mem)} (h : X6_statement N l0 l1 m = some out) : shK l0 = 6 + 10 ∧ CT yX6_statement cX6_statement 3 (some .boolean) 40 0 0 [vR l0, vR l1] 312 m (some (vI out.1)) 312 out.2 := by
  unfold X6_statement at h
  obtain ⟨hK, h⟩ := ite_some h
  have hlv : 39 < 40 := by decide
  refine ⟨hK, CT.of (by decide +kernel) rfl (Nat.le_of_ble_eq_true rfl) (ls := [some (vR l0), some (vR l1), none]) rfl fun g w C _ => ?_⟩
  refine j_aload_n C dX6_statement_0 rfl ?_
  refine j_getI C dX6_statement_1 CF6 (by decide) fl_X6_22 rfl rfl h (fun t1 h => ?_)
  refine j_iconst C dX6_statement_4 rfl ?_
  refine j_icmp_ne C 15 dX6_statement_5 rfl h (fun c131 h => ?_) (fun c131 h => ?_)
  · refine j_iconst C dX6_statement_15 rfl ?_
    exact X6_statement_J16_ok C hlv h
  · refine j_aload_n C dX6_statement_8 rfl ?_
    refine j_getI C dX6_statement_9 CF6 (by decide) fl_X6_28 rfl rfl h (fun t130 h => ?_)
    refine j_goto C 16 dX6_statement_12 rfl ?_
    exact X6_statement_J16_ok C hlv h
theorem dX6_read_0 : decode cX6_read 0 = .ok (.aload_n 0, 1) := by decide +kernel
theorem dX6_read_1 : decode cX6_read 1 = .ok (.getfield 12, 3) := by decide +kernel
theorem dX6_read_4 : decode cX6_read 4 = .ok (.aload_n 1, 1) := by decide +kernel
theorem dX6_read_5 : decode cX6_read 5 = .ok (.iload_n 2, 1) := by decide +kernel
theorem dX6_read_6 : decode cX6_read 6 = .ok (.invokevirtual 52, 3) := by decide +kernel
theorem dX6_read_9 : decode cX6_read 9 = .ok (.aload_n 3, 1) := by decide +kernel
theorem dX6_read_10 : decode cX6_read 10 = .ok (.invokevirtual 56, 3) := by decide +kernel
theorem dX6_read_13 : decode cX6_read 13 = .ok (.aload_n 0, 1) := by decide +kernel
theorem dX6_read_14 : decode cX6_read 14 = .ok (.iconst 0, 1) := by decide +kernel
theorem dX6_read_15 : decode cX6_read 15 = .ok (.putfield 43, 3) := by decide +kernel
theorem dX6_read_18 : decode cX6_read 18 = .ok (.aload_n 0, 1) := by decide +kernel
theorem dX6_read_19 : decode cX6_read 19 = .ok (.iconst (-1), 1) := by decide +kernel
theorem dX6_read_20 : decode cX6_read 20 = .ok (.putfield 46, 3) := by decide +kernel
theorem dX6_read_23 : decode cX6_read 23 = .ok (.aload_n 0, 1) := by decide +kernel
theorem dX6_read_24 : decode cX6_read 24 = .ok (.iconst 0, 1) := by decide +kernel
theorem dX6_read_25 : decode cX6_read 25 = .ok (.putfield 49, 3) := by decide +kernel
theorem dX6_read_28 : decode cX6_read 28 = .ok (.aload_n 0, 1) := by decide +kernel
theorem dX6_read_29 : decode cX6_read 29 = .ok (.iconst 0, 1) := by decide +kernel
theorem dX6_read_30 : decode cX6_read 30 = .ok (.invokevirtual 61, 3) := by decide +kernel
theorem dX6_read_33 : decode cX6_read 33 = .ok (.pop, 1) := by decide +kernel
theorem dX6_read_34 : decode cX6_read 34 = .ok (.aload_n 0, 1) := by decide +kernel
theorem dX6_read_35 : decode cX6_read 35 = .ok (.aload_n 3, 1) := by decide +kernel
theorem dX6_read_36 : decode cX6_read 36 = .ok (.invokevirtual 65, 3) := by decide +kernel
theorem dX6_read_39 : decode cX6_read 39 = .ok (.ifCond .eq 14, 3) := by decide +kernel
theorem dX6_read_42 : decode cX6_read 42 = .ok (.aload_n 0, 1) := by decide +kernel
theorem dX6_read_43 : decode cX6_read 43 = .ok (.invokevirtual 69, 3) := by decide +kernel
theorem dX6_read_46 : decode cX6_read 46 = .ok (.ifCond .eq 7, 3) := by decide +kernel
theorem dX6_read_49 : decode cX6_read 49 = .ok (.iconst 1, 1) := by decide +kernel
theorem dX6_read_50 : decode cX6_read 50 = .ok (.goto 4, 3) := by decide +kernel
theorem dX6_read_53 : decode cX6_read 53 = .ok (.iconst 0, 1) := by decide +kernel
theorem dX6_read_54 : decode cX6_read 54 = .ok (.istore 4, 2) := by decide +kernel
theorem dX6_read_56 : decode cX6_read 56 = .ok (.iconst 0, 1) := by decide +kernel
theorem dX6_read_57 : decode cX6_read 57 = .ok (.istore 5, 2) := by decide +kernel
theorem dX6_read_59 : decode cX6_read 59 = .ok (.iload 5, 2) := by decide +kernel
theorem dX6_read_61 : decode cX6_read 61 = .ok (.bipush 80, 2) := by decide +kernel
theorem dX6_read_63 : decode cX6_read 63 = .ok (.if_icmp .gt 43, 3) := by decide +kernel
theorem dX6_read_66 : decode cX6_read 66 = .ok (.iload 4, 2) := by decide +kernel
theorem dX6_read_68 : decode cX6_read 68 = .ok (.ifCond .eq 38, 3) := by decide +kernel
theorem dX6_read_71 : decode cX6_read 71 = .ok (.aload_n 0, 1) := by decide +kernel
theorem dX6_read_72 : decode cX6_read 72 = .ok (.getfield 22, 3) := by decide +kernel
theorem dX6_read_75 : decode cX6_read 75 = .ok (.ifCond .eq 31, 3) := by decide +kernel
theorem dX6_read_78 : decode cX6_read 78 = .ok (.aload_n 0, 1) := by decide +kernel
theorem dX6_read_79 : decode cX6_read 79 = .ok (.aload_n 3, 1) := by decide +kernel
theorem dX6_read_80 : decode cX6_read 80 = .ok (.invokevirtual 73, 3) := by decide +kernel
theorem dX6_read_83 : decode cX6_read 83 = .ok (.ifCond .eq 14, 3) := by decide +kernel
theorem dX6_read_86 : decode cX6_read 86 = .ok (.aload_n 0, 1) := by decide +kernel
theorem dX6_read_87 : decode cX6_read 87 = .ok (.invokevirtual 69, 3) := by decide +kernel
theorem dX6_read_90 : decode cX6_read 90 = .ok (.ifCond .eq 7, 3) := by decide +kernel
theorem dX6_read_93 : decode cX6_read 93 = .ok (.iconst 1, 1) := by decide +kernel
theorem dX6_read_94 : decode cX6_read 94 = .ok (.goto 4, 3) := by decide +kernel
theorem dX6_read_97 : decode cX6_read 97 = .ok (.iconst 0, 1) := by decide +kernel
theorem dX6_read_98 : decode cX6_read 98 = .ok (.istore 4, 2) := by decide +kernel
theorem dX6_read_100 : decode cX6_read 100 = .ok (.iinc 5 1, 3) := by decide +kernel
theorem dX6_read_103 : decode cX6_read 103 = .ok (.goto (-44), 3) := by decide +kernel
theorem dX6_read_106 : decode cX6_read 106 = .ok (.iload 4, 2) := by decide +kernel
theorem dX6_read_108 : decode cX6_read 108 = .ok (.ireturn, 1) := by decide +kernel
set_option maxRecDepth 100000 in
set_option maxHeartbeats 4000000 in
theorem X6_read_J98_ok {g : Gm} {w : Wd} (C : Cx g w RX6 cX6_read 6 (some .boolean)) {lv : Nat} (hlv : 40 < lv) {N : Nat} {r59 : Nat → Nat → Int → Int → Mem → Option (Int × Mem) } {l0 : Nat} {l3 : Nat} {l5 : Int} {s0 : Int} {m : Mem} {out : (Int × Mem)} (hr59 : ∀ l0 l3 l4 l5 m, r59 l0 l3 l4 l5 m = some out → Jd g w 6 (rmL lv 0 0) (Qm g w (some (vI out.1)) out.2) 59 [some (vR l0), none, none, some (vR l3), some (vI l4), some (vI l5)] [] 312 m 0 0) (h : X6_read_J98 N r59 l0 l3 l5 s0 m = some out) : Jd g w 6 (rmL lv 0 0) (Qm g w (some (vI out.1)) out.2) 98 [some (vR l0), none, none, some (vR l3), none, some (vI l5)] [vI s0] 312 m 0 0 := by
  unfold X6_read_J98 at h
  refine j_istore (ls' := [some (vR _), none, none, some (vR _), some (vI _), some (vI _)]) C dX6_read_98 (by decide) rfl ?_
  refine j_iinc (ls' := [some (vR _), none, none, some (vR _), some (vI _), some (vI _)]) C dX6_read_100 rfl (by decide) rfl ?_
  refine j_goto C 59 dX6_read_103 rfl ?_
  exact hr59 _ _ _ _ _ h
set_option maxRecDepth 100000 in
set_option maxHeartbeats 4000000 in
theorem X6_read_J97_ok {g : Gm} {w : Wd} (C : Cx g w RX6 cX6_read 6 (some .boolean)) {lv : Nat} (hlv : 40 < lv) {N : Nat} {r59 : Nat → Nat → Int → Int → Mem → Option (Int × Mem) } {l0 : Nat} {l3 : Nat} {l5 : Int} {m : Mem} {out : (Int × Mem)} (hr59 : ∀ l0 l3 l4 l5 m, r59 l0 l3 l4 l5 m = some out → Jd g w 6 (rmL lv 0 0) (Qm g w (some (vI out.1)) out.2) 59 [some (vR l0), none, none, some (vR l3), some (vI l4), some (vI l5)] [] 312 m 0 0) (h : X6_read_J97 N r59 l0 l3 l5 m = some out) : Jd g w 6 (rmL lv 0 0) (Qm g w (some (vI out.1)) out.2) 97 [some (vR l0), none, none, some (vR l3), none, some (vI l5)] [] 312 m 0 0 := by
  unfold X6_read_J97 at h
  refine j_iconst C dX6_read_97 rfl ?_
  exact X6_read_J98_ok C hlv hr59 h
set_option maxRecDepth 100000 in
set_option maxHeartbeats 4000000 in
theorem X6_read_L59_bok {g : Gm} {w : Wd} (C : Cx g w RX6 cX6_read 6 (some .boolean)) {lv : Nat} (hlv : 40 < lv) {N : Nat} {r59 : Nat → Nat → Int → Int → Mem → Option (Int × Mem)} {l0 : Nat} {l3 : Nat} {l4 : Int} {l5 : Int} {m : Mem} {out : (Int × Mem)} (hr59 : ∀ l0 l3 l4 l5 m, r59 l0 l3 l4 l5 m = some out → Jd g w 6 (rmL lv 0 0) (Qm g w (some (vI out.1)) out.2) 59 [some (vR l0), none, none, some (vR l3), some (vI l4), some (vI l5)] [] 312 m 0 0) (h : X6_read_L59_b N r59 l0 l3 l4 l5 m = some out) : Jd g w 6 (rmL lv 0 0) (Qm g w (some (vI out.1)) out.2) 59 [some (vR l0), none, none, some (vR l3), some (vI l4), some (vI l5)] [] 312 m 0 0 := by
  unfold X6_read_L59_b at h
  refine j_iload C dX6_read_59 rfl ?_
  refine j_bipush C dX6_read_61 rfl ?_
  refine j_icmp_gt C 106 dX6_read_63 rfl h (fun c19 h => ?_) (fun c19 h => ?_)
  · refine j_iload C dX6_read_106 rfl ?_
    obtain ⟨r9, er9, h⟩ := bind_some h
    have e := Option.some.inj h
    subst e
    exact j_rz C dX6_read_108 rfl (retZ_some er9) rfl
  · refine j_iload C dX6_read_66 rfl ?_
    refine j_if_eq C 106 dX6_read_68 rfl h (fun c18 h => ?_) (fun c18 h => ?_)
    · refine j_iload C dX6_read_106 rfl ?_
      obtain ⟨r10, er10, h⟩ := bind_some h
      have e := Option.some.inj h
      subst e
      exact j_rz C dX6_read_108 rfl (retZ_some er10) rfl
    · refine j_aload_n C dX6_read_71 rfl ?_
      refine j_getI C dX6_read_72 CF6 (by decide) fl_X6_22 rfl rfl h (fun t11 h => ?_)
      refine j_if_eq C 106 dX6_read_75 rfl h (fun c17 h => ?_) (fun c17 h => ?_)
      · refine j_iload C dX6_read_106 rfl ?_
        obtain ⟨r12, er12, h⟩ := bind_some h
        have e := Option.some.inj h
        subst e
        exact j_rz C dX6_read_108 rfl (retZ_some er12) rfl
      · refine j_aload_n C dX6_read_78 rfl ?_
        refine j_aload_n C dX6_read_79 rfl ?_
        obtain ⟨p13, ep13, h⟩ := bind_some h
        have qp13 := X6_statement_ct ep13
        refine j_cVI C dX6_read_80 vl_X6_73 CF6 rfl qp13.1 qp13.2 (by omega) rfl rfl (Nat.le_of_ble_eq_true rfl) ?_
        refine j_if_eq C 97 dX6_read_83 rfl h (fun c16 h => ?_) (fun c16 h => ?_)
        · refine j_mask [true, false, false, true, false, true] (ls' := [some (vR _), none, none, some (vR _), none, some (vI _)]) rfl ?_
          exact X6_read_J97_ok C hlv hr59 h
        · refine j_aload_n C dX6_read_86 rfl ?_
          obtain ⟨p14, ep14, h⟩ := bind_some h
          have qp14 := X6_close_ct ep14
          refine j_cVI C dX6_read_87 vl_X6_69 CF6 rfl qp14.1 qp14.2 (by omega) rfl rfl (Nat.le_of_ble_eq_true rfl) ?_
          refine j_if_eq C 97 dX6_read_90 rfl h (fun c15 h => ?_) (fun c15 h => ?_)
          · refine j_mask [true, false, false, true, false, true] (ls' := [some (vR _), none, none, some (vR _), none, some (vI _)]) rfl ?_
            exact X6_read_J97_ok C hlv hr59 h
          · refine j_iconst C dX6_read_93 rfl ?_
            refine j_goto C 98 dX6_read_94 rfl ?_
            refine j_mask [true, false, false, true, false, true] (ls' := [some (vR _), none, none, some (vR _), none, some (vI _)]) rfl ?_
            exact X6_read_J98_ok C hlv hr59 h
set_option maxRecDepth 100000 in
set_option maxHeartbeats 4000000 in
theorem X6_read_L59_ok {g : Gm} {w : Wd} (C : Cx g w RX6 cX6_read 6 (some .boolean)) {lv : Nat} (hlv : 40 < lv) {N : Nat} {out : (Int × Mem)} (f : Nat) : ∀ {l0 : Nat} {l3 : Nat} {l4 : Int} {l5 : Int} {m : Mem}, X6_read_L59 N f l0 l3 l4 l5 m = some out → Jd g w 6 (rmL lv 0 0) (Qm g w (some (vI out.1)) out.2) 59 [some (vR l0), none, none, some (vR l3), some (vI l4), some (vI l5)] [] 312 m 0 0 := by
  induction f with
  | zero => intro l0 l3 l4 l5 m h; exact none_ne (α := (Int × Mem)) h
  | succ f ih => intro l0 l3 l4 l5 m h; exact X6_read_L59_bok C hlv (fun l0 l3 l4 l5 m h => ih h) h
set_option maxRecDepth 100000 in
set_option maxHeartbeats 4000000 in
theorem X6_read_J54_ok {g : Gm} {w : Wd} (C : Cx g w RX6 cX6_read 6 (some .boolean)) {lv : Nat} (hlv : 40 < lv) {N : Nat} {l0 : Nat} {l3 : Nat} {s0 : Int} {m : Mem} {out : (Int × Mem)} (h : X6_read_J54 N l0 l3 s0 m = some out) : Jd g w 6 (rmL lv 0 0) (Qm g w (some (vI out.1)) out.2) 54 [some (vR l0), none, none, some (vR l3), none, none] [vI s0] 312 m 0 0 := by
  unfold X6_read_J54 at h
  refine j_istore (ls' := [some (vR _), none, none, some (vR _), some (vI _), none]) C dX6_read_54 (by decide) rfl ?_
  refine j_iconst C dX6_read_56 rfl ?_
  refine j_istore (ls' := [some (vR _), none, none, some (vR _), some (vI _), some (vI _)]) C dX6_read_57 (by decide) rfl ?_
  exact X6_read_L59_ok C hlv N h
set_option maxRecDepth 100000 in
set_option maxHeartbeats 4000000 in
theorem X6_read_J53_ok {g : Gm} {w : Wd} (C : Cx g w RX6 cX6_read 6 (some .boolean)) {lv : Nat} (hlv : 40 < lv) {N : Nat} {l0 : Nat} {l3 : Nat} {m : Mem} {out : (Int × Mem)} (h : X6_read_J53 N l0 l3 m = some out) : Jd g w 6 (rmL lv 0 0) (Qm g w (some (vI out.1)) out.2) 53 [some (vR l0), none, none, some (vR l3), none, none] [] 312 m 0 0 := by
  unfold X6_read_J53 at h
  refine j_iconst C dX6_read_53 rfl ?_
  exact X6_read_J54_ok C hlv h
set_option maxRecDepth 100000 in
set_option maxHeartbeats 4000000 in
theorem X6_read_ct {N : Nat} {l0 : Nat} {l1 : Nat} {l2 : Int} {l3 : Nat} {m : Mem} {out : (Int × Mem)} (h : X6_read N l0 l1 l2 l3 m = some out) : shK l0 = 6 + 10 ∧ CT yX6_read cX6_read 6 (some .boolean) 41 0 0 [vR l0, vR l1, vI l2, vR l3] 312 m (some (vI out.1)) 312 out.2 := by
  unfold X6_read at h
  obtain ⟨hK, h⟩ := ite_some h
  have hlv : 40 < 41 := by decide
  refine ⟨hK, CT.of (by decide +kernel) rfl (Nat.le_of_ble_eq_true rfl) (ls := [some (vR l0), some (vR l1), some (vI l2), some (vR l3), none, none]) rfl fun g w C _ => ?_⟩
  refine j_aload_n C dX6_read_0 rfl ?_
  refine j_getR C dX6_read_1 CF6 (by decide) fl_X6_12 rfl rfl h (fun t1 h => ?_)
  refine j_aload_n C dX6_read_4 rfl ?_
  refine j_iload_n C dX6_read_5 rfl ?_
  obtain ⟨p2, ep2, h⟩ := bind_some h
  have qp2 := X8_cut_ct ep2
  refine j_cVV C dX6_read_6 vl_X6_52 CF8 rfl qp2.1 qp2.2 (by omega) rfl rfl (Nat.le_of_ble_eq_true rfl) ?_
  refine j_aload_n C dX6_read_9 rfl ?_
  obtain ⟨p3, ep3, h⟩ := bind_some h
  have qp3 := X5_clear_ct ep3
  refine j_cVV C dX6_read_10 vl_X6_56 CF5 rfl qp3.1 qp3.2 (by omega) rfl rfl (Nat.le_of_ble_eq_true rfl) ?_
  refine j_aload_n C dX6_read_13 rfl ?_
  refine j_iconst C dX6_read_14 rfl ?_
  refine j_putI C dX6_read_15 CF6 (by decide) fl_X6_43 rfl rfl rfl rfl h (fun m4 h => ?_)
  refine j_aload_n C dX6_read_18 rfl ?_
  refine j_iconst C dX6_read_19 rfl ?_
  refine j_putI C dX6_read_20 CF6 (by decide) fl_X6_46 rfl rfl rfl rfl h (fun m5 h => ?_)
  refine j_aload_n C dX6_read_23 rfl ?_
  refine j_iconst C dX6_read_24 rfl ?_
  refine j_putI C dX6_read_25 CF6 (by decide) fl_X6_49 rfl rfl rfl rfl h (fun m6 h => ?_)
  refine j_aload_n C dX6_read_28 rfl ?_
  refine j_iconst C dX6_read_29 rfl ?_
  obtain ⟨p7, ep7, h⟩ := bind_some h
  have qp7 := X6_goTo_ct ep7
  refine j_cVI C dX6_read_30 vl_X6_61 CF6 rfl qp7.1 qp7.2 (by omega) rfl rfl (Nat.le_of_ble_eq_true rfl) ?_
  refine j_pop C dX6_read_33 rfl ?_
  refine j_aload_n C dX6_read_34 rfl ?_
  refine j_aload_n C dX6_read_35 rfl ?_
  obtain ⟨p8, ep8, h⟩ := bind_some h
  have qp8 := X6_size_ct ep8
  refine j_cVI C dX6_read_36 vl_X6_65 CF6 rfl qp8.1 qp8.2 (by omega) rfl rfl (Nat.le_of_ble_eq_true rfl) ?_
  refine j_if_eq C 53 dX6_read_39 rfl h (fun c22 h => ?_) (fun c22 h => ?_)
  · refine j_mask [true, false, false, true, false, false] (ls' := [some (vR _), none, none, some (vR _), none, none]) rfl ?_
    exact X6_read_J53_ok C hlv h
  · refine j_aload_n C dX6_read_42 rfl ?_
    obtain ⟨p20, ep20, h⟩ := bind_some h
    have qp20 := X6_close_ct ep20
    refine j_cVI C dX6_read_43 vl_X6_69 CF6 rfl qp20.1 qp20.2 (by omega) rfl rfl (Nat.le_of_ble_eq_true rfl) ?_
    refine j_if_eq C 53 dX6_read_46 rfl h (fun c21 h => ?_) (fun c21 h => ?_)
    · refine j_mask [true, false, false, true, false, false] (ls' := [some (vR _), none, none, some (vR _), none, none]) rfl ?_
      exact X6_read_J53_ok C hlv h
    · refine j_iconst C dX6_read_49 rfl ?_
      refine j_goto C 54 dX6_read_50 rfl ?_
      refine j_mask [true, false, false, true, false, false] (ls' := [some (vR _), none, none, some (vR _), none, none]) rfl ?_
      exact X6_read_J54_ok C hlv h
theorem dX4_forget_0 : decode cX4_forget 0 = .ok (.aload_n 0, 1) := by decide +kernel
theorem dX4_forget_1 : decode cX4_forget 1 = .ok (.iconst 0, 1) := by decide +kernel
theorem dX4_forget_2 : decode cX4_forget 2 = .ok (.putfield 21, 3) := by decide +kernel
theorem dX4_forget_5 : decode cX4_forget 5 = .ok (.return_, 1) := by decide +kernel
set_option maxRecDepth 100000 in
set_option maxHeartbeats 4000000 in
theorem X4_forget_ct {l0 : Nat} {m : Mem} {out : Mem} (h : X4_forget l0 m = some out) : shK l0 = 4 + 10 ∧ CT yX4_forget cX4_forget 1 none 1 0 0 [vR l0] 312 m none 312 out := by
  unfold X4_forget at h
  obtain ⟨hK, h⟩ := ite_some h
  have hlv : 0 < 1 := by decide
  refine ⟨hK, CT.of (by decide +kernel) rfl (Nat.le_of_ble_eq_true rfl) (ls := [some (vR l0)]) rfl fun g w C _ => ?_⟩
  refine j_aload_n C dX4_forget_0 rfl ?_
  refine j_iconst C dX4_forget_1 rfl ?_
  refine j_putI C dX4_forget_2 CF4 (by decide) fl_X4_21 rfl rfl rfl rfl h (fun m1 h => ?_)
  have e := Option.some.inj h
  subst e
  exact j_rv C dX4_forget_5 rfl rfl
theorem dX2_forget_0 : decode cX2_forget 0 = .ok (.aload_n 0, 1) := by decide +kernel
theorem dX2_forget_1 : decode cX2_forget 1 = .ok (.iconst 0, 1) := by decide +kernel
theorem dX2_forget_2 : decode cX2_forget 2 = .ok (.putfield 15, 3) := by decide +kernel
theorem dX2_forget_5 : decode cX2_forget 5 = .ok (.aload_n 0, 1) := by decide +kernel
theorem dX2_forget_6 : decode cX2_forget 6 = .ok (.iconst 0, 1) := by decide +kernel
theorem dX2_forget_7 : decode cX2_forget 7 = .ok (.putfield 25, 3) := by decide +kernel
theorem dX2_forget_10 : decode cX2_forget 10 = .ok (.return_, 1) := by decide +kernel
set_option maxRecDepth 100000 in
set_option maxHeartbeats 4000000 in
theorem X2_forget_ct {l0 : Nat} {m : Mem} {out : Mem} (h : X2_forget l0 m = some out) : shK l0 = 2 + 10 ∧ CT yX2_forget cX2_forget 1 none 1 0 0 [vR l0] 312 m none 312 out := by
  unfold X2_forget at h
  obtain ⟨hK, h⟩ := ite_some h
  have hlv : 0 < 1 := by decide
  refine ⟨hK, CT.of (by decide +kernel) rfl (Nat.le_of_ble_eq_true rfl) (ls := [some (vR l0)]) rfl fun g w C _ => ?_⟩
  refine j_aload_n C dX2_forget_0 rfl ?_
  refine j_iconst C dX2_forget_1 rfl ?_
  refine j_putI C dX2_forget_2 CF2 (by decide) fl_X2_15 rfl rfl rfl rfl h (fun m1 h => ?_)
  refine j_aload_n C dX2_forget_5 rfl ?_
  refine j_iconst C dX2_forget_6 rfl ?_
  refine j_putI C dX2_forget_7 CF2 (by decide) fl_X2_25 rfl rfl rfl rfl h (fun m2 h => ?_)
  have e := Option.some.inj h
  subst e
  exact j_rv C dX2_forget_10 rfl rfl
theorem dX10_island_0 : decode cX10_island 0 = .ok (.aload_n 0, 1) := by decide +kernel
theorem dX10_island_1 : decode cX10_island 1 = .ok (.getfield 20, 3) := by decide +kernel
theorem dX10_island_4 : decode cX10_island 4 = .ok (.aload_n 0, 1) := by decide +kernel
theorem dX10_island_5 : decode cX10_island 5 = .ok (.getfield 9, 3) := by decide +kernel
theorem dX10_island_8 : decode cX10_island 8 = .ok (.aload_n 0, 1) := by decide +kernel
theorem dX10_island_9 : decode cX10_island 9 = .ok (.getfield 13, 3) := by decide +kernel
theorem dX10_island_12 : decode cX10_island 12 = .ok (.aload_n 0, 1) := by decide +kernel
theorem dX10_island_13 : decode cX10_island 13 = .ok (.getfield 31, 3) := by decide +kernel
theorem dX10_island_16 : decode cX10_island 16 = .ok (.invokevirtual 109, 3) := by decide +kernel
theorem dX10_island_19 : decode cX10_island 19 = .ok (.istore_n 1, 1) := by decide +kernel
theorem dX10_island_20 : decode cX10_island 20 = .ok (.aload_n 0, 1) := by decide +kernel
theorem dX10_island_21 : decode cX10_island 21 = .ok (.iconst 0, 1) := by decide +kernel
theorem dX10_island_22 : decode cX10_island 22 = .ok (.putfield 13, 3) := by decide +kernel
theorem dX10_island_25 : decode cX10_island 25 = .ok (.iload_n 1, 1) := by decide +kernel
theorem dX10_island_26 : decode cX10_island 26 = .ok (.ifCond .ne 9, 3) := by decide +kernel
theorem dX10_island_29 : decode cX10_island 29 = .ok (.aload_n 0, 1) := by decide +kernel
theorem dX10_island_30 : decode cX10_island 30 = .ok (.iconst 1, 1) := by decide +kernel
theorem dX10_island_31 : decode cX10_island 31 = .ok (.invokevirtual 101, 3) := by decide +kernel
theorem dX10_island_34 : decode cX10_island 34 = .ok (.ireturn, 1) := by decide +kernel
theorem dX10_island_35 : decode cX10_island 35 = .ok (.aload_n 0, 1) := by decide +kernel
theorem dX10_island_36 : decode cX10_island 36 = .ok (.getfield 27, 3) := by decide +kernel
theorem dX10_island_39 : decode cX10_island 39 = .ok (.astore_n 2, 1) := by decide +kernel
theorem dX10_island_40 : decode cX10_island 40 = .ok (.aload_n 0, 1) := by decide +kernel
theorem dX10_island_41 : decode cX10_island 41 = .ok (.aload_n 0, 1) := by decide +kernel
theorem dX10_island_42 : decode cX10_island 42 = .ok (.getfield 31, 3) := by decide +kernel
theorem dX10_island_45 : decode cX10_island 45 = .ok (.putfield 27, 3) := by decide +kernel
theorem dX10_island_48 : decode cX10_island 48 = .ok (.aload_n 0, 1) := by decide +kernel
theorem dX10_island_49 : decode cX10_island 49 = .ok (.aload_n 2, 1) := by decide +kernel
theorem dX10_island_50 : decode cX10_island 50 = .ok (.putfield 31, 3) := by decide +kernel
theorem dX10_island_53 : decode cX10_island 53 = .ok (.aload_n 0, 1) := by decide +kernel
theorem dX10_island_54 : decode cX10_island 54 = .ok (.getfield 37, 3) := by decide +kernel
theorem dX10_island_57 : decode cX10_island 57 = .ok (.aload_n 0, 1) := by decide +kernel
theorem dX10_island_58 : decode cX10_island 58 = .ok (.getfield 27, 3) := by decide +kernel
theorem dX10_island_61 : decode cX10_island 61 = .ok (.getfield 113, 3) := by decide +kernel
theorem dX10_island_64 : decode cX10_island 64 = .ok (.invokevirtual 116, 3) := by decide +kernel
theorem dX10_island_67 : decode cX10_island 67 = .ok (.aload_n 0, 1) := by decide +kernel
theorem dX10_island_68 : decode cX10_island 68 = .ok (.getfield 47, 3) := by decide +kernel
theorem dX10_island_71 : decode cX10_island 71 = .ok (.invokevirtual 120, 3) := by decide +kernel
theorem dX10_island_74 : decode cX10_island 74 = .ok (.aload_n 0, 1) := by decide +kernel
theorem dX10_island_75 : decode cX10_island 75 = .ok (.getfield 88, 3) := by decide +kernel
theorem dX10_island_78 : decode cX10_island 78 = .ok (.invokevirtual 123, 3) := by decide +kernel
theorem dX10_island_81 : decode cX10_island 81 = .ok (.aload_n 0, 1) := by decide +kernel
theorem dX10_island_82 : decode cX10_island 82 = .ok (.invokevirtual 124, 3) := by decide +kernel
theorem dX10_island_85 : decode cX10_island 85 = .ok (.aload_n 0, 1) := by decide +kernel
theorem dX10_island_86 : decode cX10_island 86 = .ok (.getfield 20, 3) := by decide +kernel
theorem dX10_island_89 : decode cX10_island 89 = .ok (.getfield 127, 3) := by decide +kernel
theorem dX10_island_92 : decode cX10_island 92 = .ok (.ireturn, 1) := by decide +kernel
set_option maxRecDepth 100000 in
set_option maxHeartbeats 4000000 in
theorem X10_island_ct {N : Nat} {l0 : Nat} {m : Mem} {out : (Int × Mem)} (h : X10_island N l0 m = some out) : shK l0 = 10 + 10 ∧ CT yX10_island cX10_island 3 (some .int) 42 0 0 [vR l0] 312 m (some (vI out.1)) 312 out.2 := by
  unfold X10_island at h
  obtain ⟨hK, h⟩ := ite_some h
  have hlv : 41 < 42 := by decide
  refine ⟨hK, CT.of (by decide +kernel) rfl (Nat.le_of_ble_eq_true rfl) (ls := [some (vR l0), none, none]) rfl fun g w C _ => ?_⟩
  refine j_aload_n C dX10_island_0 rfl ?_
  refine j_getR C dX10_island_1 CF10 (by decide) fl_X10_20 rfl rfl h (fun t1 h => ?_)
  refine j_aload_n C dX10_island_4 rfl ?_
  refine j_getR C dX10_island_5 CF10 (by decide) fl_X10_9 rfl rfl h (fun t2 h => ?_)
  refine j_aload_n C dX10_island_8 rfl ?_
  refine j_getI C dX10_island_9 CF10 (by decide) fl_X10_13 rfl rfl h (fun t3 h => ?_)
  refine j_aload_n C dX10_island_12 rfl ?_
  refine j_getR C dX10_island_13 CF10 (by decide) fl_X10_31 rfl rfl h (fun t4 h => ?_)
  obtain ⟨p5, ep5, h⟩ := bind_some h
  have qp5 := X6_read_ct ep5
  refine j_cVI C dX10_island_16 vl_X10_109 CF6 rfl qp5.1 qp5.2 (by omega) rfl rfl (Nat.le_of_ble_eq_true rfl) ?_
  refine j_istore_n (ls' := [some (vR _), some (vI _), none]) C dX10_island_19 (by decide) rfl ?_
  refine j_aload_n C dX10_island_20 rfl ?_
  refine j_iconst C dX10_island_21 rfl ?_
  refine j_putI C dX10_island_22 CF10 (by decide) fl_X10_13 rfl rfl rfl rfl h (fun m6 h => ?_)
  refine j_iload_n C dX10_island_25 rfl ?_
  refine j_if_ne C 35 dX10_island_26 rfl h (fun c23 h => ?_) (fun c23 h => ?_)
  · refine j_aload_n C dX10_island_35 rfl ?_
    refine j_getR C dX10_island_36 CF10 (by decide) fl_X10_27 rfl rfl h (fun t7 h => ?_)
    refine j_astore_n (ls' := [some (vR _), some (vI _), some (vR _)]) C dX10_island_39 (by decide) rfl ?_
    refine j_aload_n C dX10_island_40 rfl ?_
    refine j_aload_n C dX10_island_41 rfl ?_
    refine j_getR C dX10_island_42 CF10 (by decide) fl_X10_31 rfl rfl h (fun t8 h => ?_)
    refine j_putR C dX10_island_45 CF10 (by decide) fl_X10_27 rfl (Or.inl ⟨_, rfl⟩) rfl rfl h (fun m9 h => ?_)
    refine j_aload_n C dX10_island_48 rfl ?_
    refine j_aload_n C dX10_island_49 rfl ?_
    refine j_putR C dX10_island_50 CF10 (by decide) fl_X10_31 rfl (Or.inl ⟨_, rfl⟩) rfl rfl h (fun m10 h => ?_)
    refine j_aload_n C dX10_island_53 rfl ?_
    refine j_getR C dX10_island_54 CF10 (by decide) fl_X10_37 rfl rfl h (fun t11 h => ?_)
    refine j_aload_n C dX10_island_57 rfl ?_
    refine j_getR C dX10_island_58 CF10 (by decide) fl_X10_27 rfl rfl h (fun t12 h => ?_)
    refine j_getR C dX10_island_61 CF5 (by decide) fl_X10_113 rfl rfl h (fun t13 h => ?_)
    obtain ⟨p14, ep14, h⟩ := bind_some h
    have qp14 := X1_copyFrom_ct ep14
    refine j_cVV C dX10_island_64 vl_X10_116 CF1 rfl qp14.1 qp14.2 (by omega) rfl rfl (Nat.le_of_ble_eq_true rfl) ?_
    refine j_aload_n C dX10_island_67 rfl ?_
    refine j_getR C dX10_island_68 CF10 (by decide) fl_X10_47 rfl rfl h (fun t15 h => ?_)
    obtain ⟨p16, ep16, h⟩ := bind_some h
    have qp16 := X4_forget_ct ep16
    refine j_cVV C dX10_island_71 vl_X10_120 CF4 rfl qp16.1 qp16.2 (by omega) rfl rfl (Nat.le_of_ble_eq_true rfl) ?_
    refine j_aload_n C dX10_island_74 rfl ?_
    refine j_getR C dX10_island_75 CF10 (by decide) fl_X10_88 rfl rfl h (fun t17 h => ?_)
    obtain ⟨p18, ep18, h⟩ := bind_some h
    have qp18 := X2_forget_ct ep18
    refine j_cVV C dX10_island_78 vl_X10_123 CF2 rfl qp18.1 qp18.2 (by omega) rfl rfl (Nat.le_of_ble_eq_true rfl) ?_
    refine j_aload_n C dX10_island_81 rfl ?_
    obtain ⟨p19, ep19, h⟩ := bind_some h
    have qp19 := X10_changed_ct ep19
    refine j_cVV C dX10_island_82 vl_X10_124 CF10 rfl qp19.1 qp19.2 (by omega) rfl rfl (Nat.le_of_ble_eq_true rfl) ?_
    refine j_aload_n C dX10_island_85 rfl ?_
    refine j_getR C dX10_island_86 CF10 (by decide) fl_X10_20 rfl rfl h (fun t20 h => ?_)
    refine j_getI C dX10_island_89 CF6 (by decide) fl_X10_127 rfl rfl h (fun t21 h => ?_)
    have e := Option.some.inj h
    subst e
    exact j_ri C dX10_island_92 rfl rfl rfl
  · refine j_aload_n C dX10_island_29 rfl ?_
    refine j_iconst C dX10_island_30 rfl ?_
    obtain ⟨p22, ep22, h⟩ := bind_some h
    have qp22 := X10_refuse_ct ep22
    refine j_cVI C dX10_island_31 vl_X10_101 CF10 rfl qp22.1 qp22.2 (by omega) rfl rfl (Nat.le_of_ble_eq_true rfl) ?_
    have e := Option.some.inj h
    subst e
    exact j_ri C dX10_island_34 rfl rfl rfl
theorem dX8_letterOf_0 : decode cX8_letterOf 0 = .ok (.iload_n 1, 1) := by decide +kernel
theorem dX8_letterOf_1 : decode cX8_letterOf 1 = .ok (.ifCond .lt 22, 3) := by decide +kernel
theorem dX8_letterOf_4 : decode cX8_letterOf 4 = .ok (.iload_n 1, 1) := by decide +kernel
theorem dX8_letterOf_5 : decode cX8_letterOf 5 = .ok (.bipush 6, 2) := by decide +kernel
theorem dX8_letterOf_7 : decode cX8_letterOf 7 = .ok (.if_icmp .ge 16, 3) := by decide +kernel
theorem dX8_letterOf_10 : decode cX8_letterOf 10 = .ok (.iload_n 0, 1) := by decide +kernel
theorem dX8_letterOf_11 : decode cX8_letterOf 11 = .ok (.iconst 5, 1) := by decide +kernel
theorem dX8_letterOf_12 : decode cX8_letterOf 12 = .ok (.iconst 5, 1) := by decide +kernel
theorem dX8_letterOf_13 : decode cX8_letterOf 13 = .ok (.iload_n 1, 1) := by decide +kernel
theorem dX8_letterOf_14 : decode cX8_letterOf 14 = .ok (.isub, 1) := by decide +kernel
theorem dX8_letterOf_15 : decode cX8_letterOf 15 = .ok (.imul, 1) := by decide +kernel
theorem dX8_letterOf_16 : decode cX8_letterOf 16 = .ok (.ishr, 1) := by decide +kernel
theorem dX8_letterOf_17 : decode cX8_letterOf 17 = .ok (.bipush 31, 2) := by decide +kernel
theorem dX8_letterOf_19 : decode cX8_letterOf 19 = .ok (.iand, 1) := by decide +kernel
theorem dX8_letterOf_20 : decode cX8_letterOf 20 = .ok (.goto 4, 3) := by decide +kernel
theorem dX8_letterOf_23 : decode cX8_letterOf 23 = .ok (.iconst 0, 1) := by decide +kernel
theorem dX8_letterOf_24 : decode cX8_letterOf 24 = .ok (.ireturn, 1) := by decide +kernel
set_option maxRecDepth 100000 in
set_option maxHeartbeats 4000000 in
theorem X8_letterOf_ct {l0 : Int} {l1 : Int} {m : Mem} {out : Int} (h : X8_letterOf l0 l1 m = some out) : CT yX8_letterOf cX8_letterOf 2 (some .int) 1 0 0 [vI l0, vI l1] 312 m (some (vI out)) 312 m := by
  unfold X8_letterOf at h
  have hlv : 0 < 1 := by decide
  refine CT.of (by decide +kernel) rfl (Nat.le_of_ble_eq_true rfl) (ls := [some (vI l0), some (vI l1)]) rfl fun g w C _ => ?_
  refine j_iload_n C dX8_letterOf_0 rfl ?_
  refine j_if_lt C 23 dX8_letterOf_1 rfl h (fun c2 h => ?_) (fun c2 h => ?_)
  · refine j_iconst C dX8_letterOf_23 rfl ?_
    exact j_ri C dX8_letterOf_24 rfl (Option.some.inj h).symm rfl
  · refine j_iload_n C dX8_letterOf_4 rfl ?_
    refine j_bipush C dX8_letterOf_5 rfl ?_
    refine j_icmp_ge C 23 dX8_letterOf_7 rfl h (fun c1 h => ?_) (fun c1 h => ?_)
    · refine j_iconst C dX8_letterOf_23 rfl ?_
      exact j_ri C dX8_letterOf_24 rfl (Option.some.inj h).symm rfl
    · refine j_iload_n C dX8_letterOf_10 rfl ?_
      refine j_iconst C dX8_letterOf_11 rfl ?_
      refine j_iconst C dX8_letterOf_12 rfl ?_
      refine j_iload_n C dX8_letterOf_13 rfl ?_
      refine j_isub C dX8_letterOf_14 ?_
      refine j_imul C dX8_letterOf_15 ?_
      refine j_ishr C dX8_letterOf_16 ?_
      refine j_bipush C dX8_letterOf_17 rfl ?_
      refine j_iand C dX8_letterOf_19 ?_
      refine j_goto C 24 dX8_letterOf_20 rfl ?_
      exact j_ri C dX8_letterOf_24 rfl (Option.some.inj h).symm rfl
theorem dX10_letter_0 : decode cX10_letter 0 = .ok (.iload_n 3, 1) := by decide +kernel
theorem dX10_letter_1 : decode cX10_letter 1 = .ok (.ifCond .lt 9, 3) := by decide +kernel
theorem dX10_letter_4 : decode cX10_letter 4 = .ok (.iload_n 3, 1) := by decide +kernel
theorem dX10_letter_5 : decode cX10_letter 5 = .ok (.bipush 6, 2) := by decide +kernel
theorem dX10_letter_7 : decode cX10_letter 7 = .ok (.if_icmp .lt 5, 3) := by decide +kernel
theorem dX10_letter_10 : decode cX10_letter 10 = .ok (.iconst (-1), 1) := by decide +kernel
theorem dX10_letter_11 : decode cX10_letter 11 = .ok (.ireturn, 1) := by decide +kernel
theorem dX10_letter_12 : decode cX10_letter 12 = .ok (.iload_n 1, 1) := by decide +kernel
theorem dX10_letter_13 : decode cX10_letter 13 = .ok (.ifCond .ne 28, 3) := by decide +kernel
theorem dX10_letter_16 : decode cX10_letter 16 = .ok (.aload_n 0, 1) := by decide +kernel
theorem dX10_letter_17 : decode cX10_letter 17 = .ok (.getfield 27, 3) := by decide +kernel
theorem dX10_letter_20 : decode cX10_letter 20 = .ok (.iload_n 2, 1) := by decide +kernel
theorem dX10_letter_21 : decode cX10_letter 21 = .ok (.invokevirtual 173, 3) := by decide +kernel
theorem dX10_letter_24 : decode cX10_letter 24 = .ok (.ifCond .eq 17, 3) := by decide +kernel
theorem dX10_letter_27 : decode cX10_letter 27 = .ok (.aload_n 0, 1) := by decide +kernel
theorem dX10_letter_28 : decode cX10_letter 28 = .ok (.getfield 27, 3) := by decide +kernel
theorem dX10_letter_31 : decode cX10_letter 31 = .ok (.getfield 177, 3) := by decide +kernel
theorem dX10_letter_34 : decode cX10_letter 34 = .ok (.iload_n 2, 1) := by decide +kernel
theorem dX10_letter_35 : decode cX10_letter 35 = .ok (.iaload, 1) := by decide +kernel
theorem dX10_letter_36 : decode cX10_letter 36 = .ok (.iload_n 3, 1) := by decide +kernel
theorem dX10_letter_37 : decode cX10_letter 37 = .ok (.invokestatic 180, 3) := by decide +kernel
theorem dX10_letter_40 : decode cX10_letter 40 = .ok (.ireturn, 1) := by decide +kernel
theorem dX10_letter_41 : decode cX10_letter 41 = .ok (.iload_n 1, 1) := by decide +kernel
theorem dX10_letter_42 : decode cX10_letter 42 = .ok (.iconst 1, 1) := by decide +kernel
theorem dX10_letter_43 : decode cX10_letter 43 = .ok (.if_icmp .ne 28, 3) := by decide +kernel
theorem dX10_letter_46 : decode cX10_letter 46 = .ok (.aload_n 0, 1) := by decide +kernel
theorem dX10_letter_47 : decode cX10_letter 47 = .ok (.getfield 27, 3) := by decide +kernel
theorem dX10_letter_50 : decode cX10_letter 50 = .ok (.iload_n 2, 1) := by decide +kernel
theorem dX10_letter_51 : decode cX10_letter 51 = .ok (.invokevirtual 186, 3) := by decide +kernel
theorem dX10_letter_54 : decode cX10_letter 54 = .ok (.ifCond .eq 17, 3) := by decide +kernel
theorem dX10_letter_57 : decode cX10_letter 57 = .ok (.aload_n 0, 1) := by decide +kernel
theorem dX10_letter_58 : decode cX10_letter 58 = .ok (.getfield 27, 3) := by decide +kernel
theorem dX10_letter_61 : decode cX10_letter 61 = .ok (.getfield 189, 3) := by decide +kernel
theorem dX10_letter_64 : decode cX10_letter 64 = .ok (.iload_n 2, 1) := by decide +kernel
theorem dX10_letter_65 : decode cX10_letter 65 = .ok (.iaload, 1) := by decide +kernel
theorem dX10_letter_66 : decode cX10_letter 66 = .ok (.iload_n 3, 1) := by decide +kernel
theorem dX10_letter_67 : decode cX10_letter 67 = .ok (.invokestatic 180, 3) := by decide +kernel
theorem dX10_letter_70 : decode cX10_letter 70 = .ok (.ireturn, 1) := by decide +kernel
theorem dX10_letter_71 : decode cX10_letter 71 = .ok (.iconst (-1), 1) := by decide +kernel
theorem dX10_letter_72 : decode cX10_letter 72 = .ok (.ireturn, 1) := by decide +kernel
set_option maxRecDepth 100000 in
set_option maxHeartbeats 4000000 in
theorem X10_letter_J41_ok {g : Gm} {w : Wd} (C : Cx g w RX10 cX10_letter 4 (some .int)) {lv : Nat} (hlv : 1 < lv) {l0 : Nat} {l1 : Int} {l2 : Int} {l3 : Int} {m : Mem} {out : Int} (h : X10_letter_J41 l0 l1 l2 l3 m = some out) : Jd g w 4 (rmL lv 0 0) (Qm g w (some (vI out)) m) 41 [some (vR l0), some (vI l1), some (vI l2), some (vI l3)] [] 312 m 0 0 := by
  unfold X10_letter_J41 at h
  refine j_iload_n C dX10_letter_41 rfl ?_
  refine j_iconst C dX10_letter_42 rfl ?_
  refine j_icmp_ne C 71 dX10_letter_43 rfl h (fun c8 h => ?_) (fun c8 h => ?_)
  · refine j_iconst C dX10_letter_71 rfl ?_
    exact j_ri C dX10_letter_72 rfl (Option.some.inj h).symm rfl
  · refine j_aload_n C dX10_letter_46 rfl ?_
    refine j_getR C dX10_letter_47 CF10 (by decide) fl_X10_27 rfl rfl h (fun t1 h => ?_)
    refine j_iload_n C dX10_letter_50 rfl ?_
    obtain ⟨p2, ep2, h⟩ := bind_some h
    have qp2 := X5_isCloth_ct ep2
    refine j_cVI C dX10_letter_51 vl_X10_186 CF5 rfl qp2.1 qp2.2 (by omega) rfl rfl (Nat.le_of_ble_eq_true rfl) ?_
    refine j_if_eq C 71 dX10_letter_54 rfl h (fun c7 h => ?_) (fun c7 h => ?_)
    · refine j_iconst C dX10_letter_71 rfl ?_
      exact j_ri C dX10_letter_72 rfl (Option.some.inj h).symm rfl
    · refine j_aload_n C dX10_letter_57 rfl ?_
      refine j_getR C dX10_letter_58 CF10 (by decide) fl_X10_27 rfl rfl h (fun t3 h => ?_)
      refine j_getR C dX10_letter_61 CF5 (by decide) fl_X10_189 rfl rfl h (fun t4 h => ?_)
      refine j_iload_n C dX10_letter_64 rfl ?_
      refine j_iald C dX10_letter_65 rfl h (fun t5 h => ?_)
      refine j_iload_n C dX10_letter_66 rfl ?_
      obtain ⟨p6, ep6, h⟩ := bind_some h
      have qp6 := X8_letterOf_ct ep6
      refine j_cSI C dX10_letter_67 sl_X10_180 qp6 (by omega) rfl rfl (Nat.le_of_ble_eq_true rfl) ?_
      exact j_ri C dX10_letter_70 rfl (Option.some.inj h).symm rfl
set_option maxRecDepth 100000 in
set_option maxHeartbeats 4000000 in
theorem X10_letter_ct {l0 : Nat} {l1 : Int} {l2 : Int} {l3 : Int} {m : Mem} {out : Int} (h : X10_letter l0 l1 l2 l3 m = some out) : shK l0 = 10 + 10 ∧ CT yX10_letter cX10_letter 4 (some .int) 2 0 0 [vR l0, vI l1, vI l2, vI l3] 312 m (some (vI out)) 312 m := by
  unfold X10_letter at h
  obtain ⟨hK, h⟩ := ite_some h
  have hlv : 1 < 2 := by decide
  refine ⟨hK, CT.of (by decide +kernel) rfl (Nat.le_of_ble_eq_true rfl) (ls := [some (vR l0), some (vI l1), some (vI l2), some (vI l3)]) rfl fun g w C _ => ?_⟩
  refine j_iload_n C dX10_letter_0 rfl ?_
  refine j_if_lt C 10 dX10_letter_1 rfl h (fun c18 h => ?_) (fun c18 h => ?_)
  · refine j_iconst C dX10_letter_10 rfl ?_
    exact j_ri C dX10_letter_11 rfl (Option.some.inj h).symm rfl
  · refine j_iload_n C dX10_letter_4 rfl ?_
    refine j_bipush C dX10_letter_5 rfl ?_
    refine j_icmp_lt C 12 dX10_letter_7 rfl h (fun c17 h => ?_) (fun c17 h => ?_)
    · refine j_iload_n C dX10_letter_12 rfl ?_
      refine j_if_ne C 41 dX10_letter_13 rfl h (fun c16 h => ?_) (fun c16 h => ?_)
      · exact X10_letter_J41_ok C hlv h
      · refine j_aload_n C dX10_letter_16 rfl ?_
        refine j_getR C dX10_letter_17 CF10 (by decide) fl_X10_27 rfl rfl h (fun t9 h => ?_)
        refine j_iload_n C dX10_letter_20 rfl ?_
        obtain ⟨p10, ep10, h⟩ := bind_some h
        have qp10 := X5_isCistern_ct ep10
        refine j_cVI C dX10_letter_21 vl_X10_173 CF5 rfl qp10.1 qp10.2 (by omega) rfl rfl (Nat.le_of_ble_eq_true rfl) ?_
        refine j_if_eq C 41 dX10_letter_24 rfl h (fun c15 h => ?_) (fun c15 h => ?_)
        · exact X10_letter_J41_ok C hlv h
        · refine j_aload_n C dX10_letter_27 rfl ?_
          refine j_getR C dX10_letter_28 CF10 (by decide) fl_X10_27 rfl rfl h (fun t11 h => ?_)
          refine j_getR C dX10_letter_31 CF5 (by decide) fl_X10_177 rfl rfl h (fun t12 h => ?_)
          refine j_iload_n C dX10_letter_34 rfl ?_
          refine j_iald C dX10_letter_35 rfl h (fun t13 h => ?_)
          refine j_iload_n C dX10_letter_36 rfl ?_
          obtain ⟨p14, ep14, h⟩ := bind_some h
          have qp14 := X8_letterOf_ct ep14
          refine j_cSI C dX10_letter_37 sl_X10_180 qp14 (by omega) rfl rfl (Nat.le_of_ble_eq_true rfl) ?_
          exact j_ri C dX10_letter_40 rfl (Option.some.inj h).symm rfl
    · refine j_iconst C dX10_letter_10 rfl ?_
      exact j_ri C dX10_letter_11 rfl (Option.some.inj h).symm rfl
theorem dX9_prepare_0 : decode cX9_prepare 0 = .ok (.aload_n 0, 1) := by decide +kernel
theorem dX9_prepare_1 : decode cX9_prepare 1 = .ok (.aload_n 1, 1) := by decide +kernel
theorem dX9_prepare_2 : decode cX9_prepare 2 = .ok (.getfield 28, 3) := by decide +kernel
theorem dX9_prepare_5 : decode cX9_prepare 5 = .ok (.putfield 18, 3) := by decide +kernel
theorem dX9_prepare_8 : decode cX9_prepare 8 = .ok (.aload_n 0, 1) := by decide +kernel
theorem dX9_prepare_9 : decode cX9_prepare 9 = .ok (.aload_n 1, 1) := by decide +kernel
theorem dX9_prepare_10 : decode cX9_prepare 10 = .ok (.getfield 31, 3) := by decide +kernel
theorem dX9_prepare_13 : decode cX9_prepare 13 = .ok (.putfield 22, 3) := by decide +kernel
theorem dX9_prepare_16 : decode cX9_prepare 16 = .ok (.iconst 0, 1) := by decide +kernel
theorem dX9_prepare_17 : decode cX9_prepare 17 = .ok (.istore 4, 2) := by decide +kernel
theorem dX9_prepare_19 : decode cX9_prepare 19 = .ok (.iload 4, 2) := by decide +kernel
theorem dX9_prepare_21 : decode cX9_prepare 21 = .ok (.aload_n 0, 1) := by decide +kernel
theorem dX9_prepare_22 : decode cX9_prepare 22 = .ok (.getfield 18, 3) := by decide +kernel
theorem dX9_prepare_25 : decode cX9_prepare 25 = .ok (.if_icmp .ge 50, 3) := by decide +kernel
theorem dX9_prepare_28 : decode cX9_prepare 28 = .ok (.aload_n 1, 1) := by decide +kernel
theorem dX9_prepare_29 : decode cX9_prepare 29 = .ok (.getfield 34, 3) := by decide +kernel
theorem dX9_prepare_32 : decode cX9_prepare 32 = .ok (.iload 4, 2) := by decide +kernel
theorem dX9_prepare_34 : decode cX9_prepare 34 = .ok (.iaload, 1) := by decide +kernel
theorem dX9_prepare_35 : decode cX9_prepare 35 = .ok (.istore 5, 2) := by decide +kernel
theorem dX9_prepare_37 : decode cX9_prepare 37 = .ok (.aload_n 0, 1) := by decide +kernel
theorem dX9_prepare_38 : decode cX9_prepare 38 = .ok (.getfield 9, 3) := by decide +kernel
theorem dX9_prepare_41 : decode cX9_prepare 41 = .ok (.iload 4, 2) := by decide +kernel
theorem dX9_prepare_43 : decode cX9_prepare 43 = .ok (.aload_n 3, 1) := by decide +kernel
theorem dX9_prepare_44 : decode cX9_prepare 44 = .ok (.iload 5, 2) := by decide +kernel
theorem dX9_prepare_46 : decode cX9_prepare 46 = .ok (.invokevirtual 37, 3) := by decide +kernel
theorem dX9_prepare_49 : decode cX9_prepare 49 = .ok (.iastore, 1) := by decide +kernel
theorem dX9_prepare_50 : decode cX9_prepare 50 = .ok (.aload_n 0, 1) := by decide +kernel
theorem dX9_prepare_51 : decode cX9_prepare 51 = .ok (.getfield 15, 3) := by decide +kernel
theorem dX9_prepare_54 : decode cX9_prepare 54 = .ok (.iload 4, 2) := by decide +kernel
theorem dX9_prepare_56 : decode cX9_prepare 56 = .ok (.aload_n 1, 1) := by decide +kernel
theorem dX9_prepare_57 : decode cX9_prepare 57 = .ok (.aload_n 2, 1) := by decide +kernel
theorem dX9_prepare_58 : decode cX9_prepare 58 = .ok (.aload_n 2, 1) := by decide +kernel
theorem dX9_prepare_59 : decode cX9_prepare 59 = .ok (.getfield 43, 3) := by decide +kernel
theorem dX9_prepare_62 : decode cX9_prepare 62 = .ok (.iload 5, 2) := by decide +kernel
theorem dX9_prepare_64 : decode cX9_prepare 64 = .ok (.iaload, 1) := by decide +kernel
theorem dX9_prepare_65 : decode cX9_prepare 65 = .ok (.invokevirtual 48, 3) := by decide +kernel
theorem dX9_prepare_68 : decode cX9_prepare 68 = .ok (.iastore, 1) := by decide +kernel
theorem dX9_prepare_69 : decode cX9_prepare 69 = .ok (.iinc 4 1, 3) := by decide +kernel
theorem dX9_prepare_72 : decode cX9_prepare 72 = .ok (.goto (-53), 3) := by decide +kernel
theorem dX9_prepare_75 : decode cX9_prepare 75 = .ok (.return_, 1) := by decide +kernel
set_option maxRecDepth 100000 in
set_option maxHeartbeats 4000000 in
theorem X9_prepare_L19_bok {g : Gm} {w : Wd} (C : Cx g w RX9 cX9_prepare 6 none) {lv : Nat} (hlv : 2 < lv) {N : Nat} {r19 : Nat → Nat → Nat → Nat → Int → Mem → Option Mem} {l0 : Nat} {l1 : Nat} {l2 : Nat} {l3 : Nat} {l4 : Int} {m : Mem} {out : Mem} (hr19 : ∀ l0 l1 l2 l3 l4 m, r19 l0 l1 l2 l3 l4 m = some out → Jd g w 6 (rmL lv 0 0) (Qm g w none out) 19 [some (vR l0), some (vR l1), some (vR l2), some (vR l3), some (vI l4), none] [] 312 m 0 0) (h : X9_prepare_L19_b N r19 l0 l1 l2 l3 l4 m = some out) : Jd g w 6 (rmL lv 0 0) (Qm g w none out) 19 [some (vR l0), some (vR l1), some (vR l2), some (vR l3), some (vI l4), none] [] 312 m 0 0 := by
  unfold X9_prepare_L19_b at h
  refine j_iload C dX9_prepare_19 rfl ?_
  refine j_aload_n C dX9_prepare_21 rfl ?_
  refine j_getI C dX9_prepare_22 CF9 (by decide) fl_X9_18 rfl rfl h (fun t5 h => ?_)
  refine j_icmp_ge C 75 dX9_prepare_25 rfl h (fun c16 h => ?_) (fun c16 h => ?_)
  · have e := Option.some.inj h
    subst e
    exact j_rv C dX9_prepare_75 rfl rfl
  · refine j_aload_n C dX9_prepare_28 rfl ?_
    refine j_getR C dX9_prepare_29 CF5 (by decide) fl_X9_34 rfl rfl h (fun t6 h => ?_)
    refine j_iload C dX9_prepare_32 rfl ?_
    refine j_iald C dX9_prepare_34 rfl h (fun t7 h => ?_)
    refine j_istore (ls' := [some (vR _), some (vR _), some (vR _), some (vR _), some (vI _), some (vI _)]) C dX9_prepare_35 (by decide) rfl ?_
    refine j_aload_n C dX9_prepare_37 rfl ?_
    refine j_getR C dX9_prepare_38 CF9 (by decide) fl_X9_9 rfl rfl h (fun t8 h => ?_)
    refine j_iload C dX9_prepare_41 rfl ?_
    refine j_aload_n C dX9_prepare_43 rfl ?_
    refine j_iload C dX9_prepare_44 rfl ?_
    obtain ⟨p9, ep9, h⟩ := bind_some h
    have qp9 := X3_dawn_ct ep9
    refine j_cVI C dX9_prepare_46 vl_X9_37 CF3 rfl qp9.1 qp9.2 (by omega) rfl rfl (Nat.le_of_ble_eq_true rfl) ?_
    refine j_iast C dX9_prepare_49 rfl h (fun m10 h => ?_)
    refine j_aload_n C dX9_prepare_50 rfl ?_
    refine j_getR C dX9_prepare_51 CF9 (by decide) fl_X9_15 rfl rfl h (fun t11 h => ?_)
    refine j_iload C dX9_prepare_54 rfl ?_
    refine j_aload_n C dX9_prepare_56 rfl ?_
    refine j_aload_n C dX9_prepare_57 rfl ?_
    refine j_aload_n C dX9_prepare_58 rfl ?_
    refine j_getR C dX9_prepare_59 CF1 (by decide) fl_X9_43 rfl rfl h (fun t12 h => ?_)
    refine j_iload C dX9_prepare_62 rfl ?_
    refine j_iald C dX9_prepare_64 rfl h (fun t13 h => ?_)
    obtain ⟨p14, ep14, h⟩ := bind_some h
    have qp14 := X5_sun_ct ep14
    refine j_cVI C dX9_prepare_65 vl_X9_48 CF5 rfl qp14.1 qp14.2 (by omega) rfl rfl (Nat.le_of_ble_eq_true rfl) ?_
    refine j_iast C dX9_prepare_68 rfl h (fun m15 h => ?_)
    refine j_iinc (ls' := [some (vR _), some (vR _), some (vR _), some (vR _), some (vI _), some (vI _)]) C dX9_prepare_69 rfl (by decide) rfl ?_
    refine j_goto C 19 dX9_prepare_72 rfl ?_
    refine j_mask [true, true, true, true, true, false] (ls' := [some (vR _), some (vR _), some (vR _), some (vR _), some (vI _), none]) rfl ?_
    exact hr19 _ _ _ _ _ _ h
set_option maxRecDepth 100000 in
set_option maxHeartbeats 4000000 in
theorem X9_prepare_L19_ok {g : Gm} {w : Wd} (C : Cx g w RX9 cX9_prepare 6 none) {lv : Nat} (hlv : 2 < lv) {N : Nat} {out : Mem} (f : Nat) : ∀ {l0 : Nat} {l1 : Nat} {l2 : Nat} {l3 : Nat} {l4 : Int} {m : Mem}, X9_prepare_L19 N f l0 l1 l2 l3 l4 m = some out → Jd g w 6 (rmL lv 0 0) (Qm g w none out) 19 [some (vR l0), some (vR l1), some (vR l2), some (vR l3), some (vI l4), none] [] 312 m 0 0 := by
  induction f with
  | zero => intro l0 l1 l2 l3 l4 m h; exact none_ne (α := Mem) h
  | succ f ih => intro l0 l1 l2 l3 l4 m h; exact X9_prepare_L19_bok C hlv (fun l0 l1 l2 l3 l4 m h => ih h) h
set_option maxRecDepth 100000 in
set_option maxHeartbeats 4000000 in
theorem X9_prepare_ct {N : Nat} {l0 : Nat} {l1 : Nat} {l2 : Nat} {l3 : Nat} {m : Mem} {out : Mem} (h : X9_prepare N l0 l1 l2 l3 m = some out) : shK l0 = 9 + 10 ∧ CT yX9_prepare cX9_prepare 6 none 3 0 0 [vR l0, vR l1, vR l2, vR l3] 312 m none 312 out := by
  unfold X9_prepare at h
  obtain ⟨hK, h⟩ := ite_some h
  have hlv : 2 < 3 := by decide
  refine ⟨hK, CT.of (by decide +kernel) rfl (Nat.le_of_ble_eq_true rfl) (ls := [some (vR l0), some (vR l1), some (vR l2), some (vR l3), none, none]) rfl fun g w C _ => ?_⟩
  refine j_aload_n C dX9_prepare_0 rfl ?_
  refine j_aload_n C dX9_prepare_1 rfl ?_
  refine j_getI C dX9_prepare_2 CF5 (by decide) fl_X9_28 rfl rfl h (fun t1 h => ?_)
  refine j_putI C dX9_prepare_5 CF9 (by decide) fl_X9_18 rfl rfl rfl rfl h (fun m2 h => ?_)
  refine j_aload_n C dX9_prepare_8 rfl ?_
  refine j_aload_n C dX9_prepare_9 rfl ?_
  refine j_getI C dX9_prepare_10 CF5 (by decide) fl_X9_31 rfl rfl h (fun t3 h => ?_)
  refine j_putI C dX9_prepare_13 CF9 (by decide) fl_X9_22 rfl rfl rfl rfl h (fun m4 h => ?_)
  refine j_iconst C dX9_prepare_16 rfl ?_
  refine j_istore (ls' := [some (vR _), some (vR _), some (vR _), some (vR _), some (vI _), none]) C dX9_prepare_17 (by decide) rfl ?_
  exact X9_prepare_L19_ok C hlv N h
theorem dJ6_bitCount_0f7a4_0 : decode cJ6_bitCount_0f7a4 0 = .ok (.iload_n 0, 1) := by decide +kernel
theorem dJ6_bitCount_0f7a4_1 : decode cJ6_bitCount_0f7a4 1 = .ok (.iload_n 0, 1) := by decide +kernel
theorem dJ6_bitCount_0f7a4_2 : decode cJ6_bitCount_0f7a4 2 = .ok (.iconst 1, 1) := by decide +kernel
theorem dJ6_bitCount_0f7a4_3 : decode cJ6_bitCount_0f7a4 3 = .ok (.iushr, 1) := by decide +kernel
theorem dJ6_bitCount_0f7a4_4 : decode cJ6_bitCount_0f7a4 4 = .ok (.ldc_w 265, 3) := by decide +kernel
theorem dJ6_bitCount_0f7a4_7 : decode cJ6_bitCount_0f7a4 7 = .ok (.iand, 1) := by decide +kernel
theorem dJ6_bitCount_0f7a4_8 : decode cJ6_bitCount_0f7a4 8 = .ok (.isub, 1) := by decide +kernel
theorem dJ6_bitCount_0f7a4_9 : decode cJ6_bitCount_0f7a4 9 = .ok (.istore_n 0, 1) := by decide +kernel
theorem dJ6_bitCount_0f7a4_10 : decode cJ6_bitCount_0f7a4 10 = .ok (.iload_n 0, 1) := by decide +kernel
theorem dJ6_bitCount_0f7a4_11 : decode cJ6_bitCount_0f7a4 11 = .ok (.ldc_w 266, 3) := by decide +kernel
theorem dJ6_bitCount_0f7a4_14 : decode cJ6_bitCount_0f7a4 14 = .ok (.iand, 1) := by decide +kernel
theorem dJ6_bitCount_0f7a4_15 : decode cJ6_bitCount_0f7a4 15 = .ok (.iload_n 0, 1) := by decide +kernel
theorem dJ6_bitCount_0f7a4_16 : decode cJ6_bitCount_0f7a4 16 = .ok (.iconst 2, 1) := by decide +kernel
theorem dJ6_bitCount_0f7a4_17 : decode cJ6_bitCount_0f7a4 17 = .ok (.iushr, 1) := by decide +kernel
theorem dJ6_bitCount_0f7a4_18 : decode cJ6_bitCount_0f7a4 18 = .ok (.ldc_w 266, 3) := by decide +kernel
theorem dJ6_bitCount_0f7a4_21 : decode cJ6_bitCount_0f7a4 21 = .ok (.iand, 1) := by decide +kernel
theorem dJ6_bitCount_0f7a4_22 : decode cJ6_bitCount_0f7a4 22 = .ok (.iadd, 1) := by decide +kernel
theorem dJ6_bitCount_0f7a4_23 : decode cJ6_bitCount_0f7a4 23 = .ok (.istore_n 0, 1) := by decide +kernel
theorem dJ6_bitCount_0f7a4_24 : decode cJ6_bitCount_0f7a4 24 = .ok (.iload_n 0, 1) := by decide +kernel
theorem dJ6_bitCount_0f7a4_25 : decode cJ6_bitCount_0f7a4 25 = .ok (.iload_n 0, 1) := by decide +kernel
theorem dJ6_bitCount_0f7a4_26 : decode cJ6_bitCount_0f7a4 26 = .ok (.iconst 4, 1) := by decide +kernel
theorem dJ6_bitCount_0f7a4_27 : decode cJ6_bitCount_0f7a4 27 = .ok (.iushr, 1) := by decide +kernel
theorem dJ6_bitCount_0f7a4_28 : decode cJ6_bitCount_0f7a4 28 = .ok (.iadd, 1) := by decide +kernel
theorem dJ6_bitCount_0f7a4_29 : decode cJ6_bitCount_0f7a4 29 = .ok (.ldc_w 267, 3) := by decide +kernel
theorem dJ6_bitCount_0f7a4_32 : decode cJ6_bitCount_0f7a4 32 = .ok (.iand, 1) := by decide +kernel
theorem dJ6_bitCount_0f7a4_33 : decode cJ6_bitCount_0f7a4 33 = .ok (.istore_n 0, 1) := by decide +kernel
theorem dJ6_bitCount_0f7a4_34 : decode cJ6_bitCount_0f7a4 34 = .ok (.iload_n 0, 1) := by decide +kernel
theorem dJ6_bitCount_0f7a4_35 : decode cJ6_bitCount_0f7a4 35 = .ok (.iload_n 0, 1) := by decide +kernel
theorem dJ6_bitCount_0f7a4_36 : decode cJ6_bitCount_0f7a4 36 = .ok (.bipush 8, 2) := by decide +kernel
theorem dJ6_bitCount_0f7a4_38 : decode cJ6_bitCount_0f7a4 38 = .ok (.iushr, 1) := by decide +kernel
theorem dJ6_bitCount_0f7a4_39 : decode cJ6_bitCount_0f7a4 39 = .ok (.iadd, 1) := by decide +kernel
theorem dJ6_bitCount_0f7a4_40 : decode cJ6_bitCount_0f7a4 40 = .ok (.istore_n 0, 1) := by decide +kernel
theorem dJ6_bitCount_0f7a4_41 : decode cJ6_bitCount_0f7a4 41 = .ok (.iload_n 0, 1) := by decide +kernel
theorem dJ6_bitCount_0f7a4_42 : decode cJ6_bitCount_0f7a4 42 = .ok (.iload_n 0, 1) := by decide +kernel
theorem dJ6_bitCount_0f7a4_43 : decode cJ6_bitCount_0f7a4 43 = .ok (.bipush 16, 2) := by decide +kernel
theorem dJ6_bitCount_0f7a4_45 : decode cJ6_bitCount_0f7a4 45 = .ok (.iushr, 1) := by decide +kernel
theorem dJ6_bitCount_0f7a4_46 : decode cJ6_bitCount_0f7a4 46 = .ok (.iadd, 1) := by decide +kernel
theorem dJ6_bitCount_0f7a4_47 : decode cJ6_bitCount_0f7a4 47 = .ok (.istore_n 0, 1) := by decide +kernel
theorem dJ6_bitCount_0f7a4_48 : decode cJ6_bitCount_0f7a4 48 = .ok (.iload_n 0, 1) := by decide +kernel
theorem dJ6_bitCount_0f7a4_49 : decode cJ6_bitCount_0f7a4 49 = .ok (.bipush 63, 2) := by decide +kernel
theorem dJ6_bitCount_0f7a4_51 : decode cJ6_bitCount_0f7a4 51 = .ok (.iand, 1) := by decide +kernel
theorem dJ6_bitCount_0f7a4_52 : decode cJ6_bitCount_0f7a4 52 = .ok (.ireturn, 1) := by decide +kernel
set_option maxRecDepth 100000 in
set_option maxHeartbeats 4000000 in
theorem J6_bitCount_0f7a4_ct {l0 : Int} {m : Mem} {out : Int} (h : J6_bitCount_0f7a4 l0 m = some out) : CT yJ6_bitCount_0f7a4 cJ6_bitCount_0f7a4 1 (some .int) 1 0 0 [vI l0] 312 m (some (vI out)) 312 m := by
  unfold J6_bitCount_0f7a4 at h
  have hlv : 0 < 1 := by decide
  refine CT.of (by decide +kernel) rfl (Nat.le_of_ble_eq_true rfl) (ls := [some (vI l0)]) rfl fun g w C _ => ?_
  refine j_iload_n C dJ6_bitCount_0f7a4_0 rfl ?_
  refine j_iload_n C dJ6_bitCount_0f7a4_1 rfl ?_
  refine j_iconst C dJ6_bitCount_0f7a4_2 rfl ?_
  refine j_iushr C dJ6_bitCount_0f7a4_3 ?_
  refine j_ldcw (v := 1431655765) C dJ6_bitCount_0f7a4_4 k_J6_265 rfl rfl ?_
  refine j_iand C dJ6_bitCount_0f7a4_7 ?_
  refine j_isub C dJ6_bitCount_0f7a4_8 ?_
  refine j_istore_n (ls' := [some (vI _)]) C dJ6_bitCount_0f7a4_9 (by decide) rfl ?_
  refine j_iload_n C dJ6_bitCount_0f7a4_10 rfl ?_
  refine j_ldcw (v := 858993459) C dJ6_bitCount_0f7a4_11 k_J6_266 rfl rfl ?_
  refine j_iand C dJ6_bitCount_0f7a4_14 ?_
  refine j_iload_n C dJ6_bitCount_0f7a4_15 rfl ?_
  refine j_iconst C dJ6_bitCount_0f7a4_16 rfl ?_
  refine j_iushr C dJ6_bitCount_0f7a4_17 ?_
  refine j_ldcw (v := 858993459) C dJ6_bitCount_0f7a4_18 k_J6_266 rfl rfl ?_
  refine j_iand C dJ6_bitCount_0f7a4_21 ?_
  refine j_iadd C dJ6_bitCount_0f7a4_22 ?_
  refine j_istore_n (ls' := [some (vI _)]) C dJ6_bitCount_0f7a4_23 (by decide) rfl ?_
  refine j_iload_n C dJ6_bitCount_0f7a4_24 rfl ?_
  refine j_iload_n C dJ6_bitCount_0f7a4_25 rfl ?_
  refine j_iconst C dJ6_bitCount_0f7a4_26 rfl ?_
  refine j_iushr C dJ6_bitCount_0f7a4_27 ?_
  refine j_iadd C dJ6_bitCount_0f7a4_28 ?_
  refine j_ldcw (v := 252645135) C dJ6_bitCount_0f7a4_29 k_J6_267 rfl rfl ?_
  refine j_iand C dJ6_bitCount_0f7a4_32 ?_
  refine j_istore_n (ls' := [some (vI _)]) C dJ6_bitCount_0f7a4_33 (by decide) rfl ?_
  refine j_iload_n C dJ6_bitCount_0f7a4_34 rfl ?_
  refine j_iload_n C dJ6_bitCount_0f7a4_35 rfl ?_
  refine j_bipush C dJ6_bitCount_0f7a4_36 rfl ?_
  refine j_iushr C dJ6_bitCount_0f7a4_38 ?_
  refine j_iadd C dJ6_bitCount_0f7a4_39 ?_
  refine j_istore_n (ls' := [some (vI _)]) C dJ6_bitCount_0f7a4_40 (by decide) rfl ?_
  refine j_iload_n C dJ6_bitCount_0f7a4_41 rfl ?_
  refine j_iload_n C dJ6_bitCount_0f7a4_42 rfl ?_
  refine j_bipush C dJ6_bitCount_0f7a4_43 rfl ?_
  refine j_iushr C dJ6_bitCount_0f7a4_45 ?_
  refine j_iadd C dJ6_bitCount_0f7a4_46 ?_
  refine j_istore_n (ls' := [some (vI _)]) C dJ6_bitCount_0f7a4_47 (by decide) rfl ?_
  refine j_iload_n C dJ6_bitCount_0f7a4_48 rfl ?_
  refine j_bipush C dJ6_bitCount_0f7a4_49 rfl ?_
  refine j_iand C dJ6_bitCount_0f7a4_51 ?_
  exact j_ri C dJ6_bitCount_0f7a4_52 rfl (Option.some.inj h).symm rfl
theorem dX9_together_0 : decode cX9_together 0 = .ok (.iconst 0, 1) := by decide +kernel
theorem dX9_together_1 : decode cX9_together 1 = .ok (.istore_n 2, 1) := by decide +kernel
theorem dX9_together_2 : decode cX9_together 2 = .ok (.iconst 0, 1) := by decide +kernel
theorem dX9_together_3 : decode cX9_together 3 = .ok (.istore_n 3, 1) := by decide +kernel
theorem dX9_together_4 : decode cX9_together 4 = .ok (.iload_n 3, 1) := by decide +kernel
theorem dX9_together_5 : decode cX9_together 5 = .ok (.aload_n 0, 1) := by decide +kernel
theorem dX9_together_6 : decode cX9_together 6 = .ok (.getfield 18, 3) := by decide +kernel
theorem dX9_together_9 : decode cX9_together 9 = .ok (.if_icmp .ge 24, 3) := by decide +kernel
theorem dX9_together_12 : decode cX9_together 12 = .ok (.iload_n 2, 1) := by decide +kernel
theorem dX9_together_13 : decode cX9_together 13 = .ok (.iload_n 1, 1) := by decide +kernel
theorem dX9_together_14 : decode cX9_together 14 = .ok (.iload_n 3, 1) := by decide +kernel
theorem dX9_together_15 : decode cX9_together 15 = .ok (.ishr, 1) := by decide +kernel
theorem dX9_together_16 : decode cX9_together 16 = .ok (.iconst 1, 1) := by decide +kernel
theorem dX9_together_17 : decode cX9_together 17 = .ok (.iand, 1) := by decide +kernel
theorem dX9_together_18 : decode cX9_together 18 = .ok (.aload_n 0, 1) := by decide +kernel
theorem dX9_together_19 : decode cX9_together 19 = .ok (.getfield 9, 3) := by decide +kernel
theorem dX9_together_22 : decode cX9_together 22 = .ok (.iload_n 3, 1) := by decide +kernel
theorem dX9_together_23 : decode cX9_together 23 = .ok (.iaload, 1) := by decide +kernel
theorem dX9_together_24 : decode cX9_together 24 = .ok (.imul, 1) := by decide +kernel
theorem dX9_together_25 : decode cX9_together 25 = .ok (.iadd, 1) := by decide +kernel
theorem dX9_together_26 : decode cX9_together 26 = .ok (.istore_n 2, 1) := by decide +kernel
theorem dX9_together_27 : decode cX9_together 27 = .ok (.iinc 3 1, 3) := by decide +kernel
theorem dX9_together_30 : decode cX9_together 30 = .ok (.goto (-26), 3) := by decide +kernel
theorem dX9_together_33 : decode cX9_together 33 = .ok (.iload_n 2, 1) := by decide +kernel
theorem dX9_together_34 : decode cX9_together 34 = .ok (.ireturn, 1) := by decide +kernel
set_option maxRecDepth 100000 in
set_option maxHeartbeats 4000000 in
theorem X9_together_L4_bok {g : Gm} {w : Wd} (C : Cx g w RX9 cX9_together 4 (some .int)) {lv : Nat} (hlv : 0 < lv) {N : Nat} {r4 : Nat → Int → Int → Int → Option Int} {l0 : Nat} {l1 : Int} {l2 : Int} {l3 : Int} {m : Mem} {out : Int} (hr4 : ∀ l0 l1 l2 l3, r4 l0 l1 l2 l3 = some out → Jd g w 4 (rmL lv 0 0) (Qm g w (some (vI out)) m) 4 [some (vR l0), some (vI l1), some (vI l2), some (vI l3)] [] 312 m 0 0) (h : X9_together_L4_b N m r4 l0 l1 l2 l3 = some out) : Jd g w 4 (rmL lv 0 0) (Qm g w (some (vI out)) m) 4 [some (vR l0), some (vI l1), some (vI l2), some (vI l3)] [] 312 m 0 0 := by
  unfold X9_together_L4_b at h
  refine j_iload_n C dX9_together_4 rfl ?_
  refine j_aload_n C dX9_together_5 rfl ?_
  refine j_getI C dX9_together_6 CF9 (by decide) fl_X9_18 rfl rfl h (fun t1 h => ?_)
  refine j_icmp_ge C 33 dX9_together_9 rfl h (fun c4 h => ?_) (fun c4 h => ?_)
  · refine j_iload_n C dX9_together_33 rfl ?_
    exact j_ri C dX9_together_34 rfl (Option.some.inj h).symm rfl
  · refine j_iload_n C dX9_together_12 rfl ?_
    refine j_iload_n C dX9_together_13 rfl ?_
    refine j_iload_n C dX9_together_14 rfl ?_
    refine j_ishr C dX9_together_15 ?_
    refine j_iconst C dX9_together_16 rfl ?_
    refine j_iand C dX9_together_17 ?_
    refine j_aload_n C dX9_together_18 rfl ?_
    refine j_getR C dX9_together_19 CF9 (by decide) fl_X9_9 rfl rfl h (fun t2 h => ?_)
    refine j_iload_n C dX9_together_22 rfl ?_
    refine j_iald C dX9_together_23 rfl h (fun t3 h => ?_)
    refine j_imul C dX9_together_24 ?_
    refine j_iadd C dX9_together_25 ?_
    refine j_istore_n (ls' := [some (vR _), some (vI _), some (vI _), some (vI _)]) C dX9_together_26 (by decide) rfl ?_
    refine j_iinc (ls' := [some (vR _), some (vI _), some (vI _), some (vI _)]) C dX9_together_27 rfl (by decide) rfl ?_
    refine j_goto C 4 dX9_together_30 rfl ?_
    exact hr4 _ _ _ _ h
set_option maxRecDepth 100000 in
set_option maxHeartbeats 4000000 in
theorem X9_together_L4_ok {g : Gm} {w : Wd} (C : Cx g w RX9 cX9_together 4 (some .int)) {lv : Nat} (hlv : 0 < lv) {N : Nat} {m : Mem} {out : Int} (f : Nat) : ∀ {l0 : Nat} {l1 : Int} {l2 : Int} {l3 : Int}, X9_together_L4 N m f l0 l1 l2 l3 = some out → Jd g w 4 (rmL lv 0 0) (Qm g w (some (vI out)) m) 4 [some (vR l0), some (vI l1), some (vI l2), some (vI l3)] [] 312 m 0 0 := by
  induction f with
  | zero => intro l0 l1 l2 l3 h; exact none_ne (α := Int) h
  | succ f ih => intro l0 l1 l2 l3 h; exact X9_together_L4_bok C hlv (fun l0 l1 l2 l3 h => ih h) h
set_option maxRecDepth 100000 in
set_option maxHeartbeats 4000000 in
theorem X9_together_ct {N : Nat} {l0 : Nat} {l1 : Int} {m : Mem} {out : Int} (h : X9_together N l0 l1 m = some out) : shK l0 = 9 + 10 ∧ CT yX9_together cX9_together 4 (some .int) 1 0 0 [vR l0, vI l1] 312 m (some (vI out)) 312 m := by
  unfold X9_together at h
  obtain ⟨hK, h⟩ := ite_some h
  have hlv : 0 < 1 := by decide
  refine ⟨hK, CT.of (by decide +kernel) rfl (Nat.le_of_ble_eq_true rfl) (ls := [some (vR l0), some (vI l1), none, none]) rfl fun g w C _ => ?_⟩
  refine j_iconst C dX9_together_0 rfl ?_
  refine j_istore_n (ls' := [some (vR _), some (vI _), some (vI _), none]) C dX9_together_1 (by decide) rfl ?_
  refine j_iconst C dX9_together_2 rfl ?_
  refine j_istore_n (ls' := [some (vR _), some (vI _), some (vI _), some (vI _)]) C dX9_together_3 (by decide) rfl ?_
  exact X9_together_L4_ok C hlv N h
theorem dX9_leastLinen_0 : decode cX9_leastLinen 0 = .ok (.iconst (-1), 1) := by decide +kernel
theorem dX9_leastLinen_1 : decode cX9_leastLinen 1 = .ok (.istore_n 2, 1) := by decide +kernel
theorem dX9_leastLinen_2 : decode cX9_leastLinen 2 = .ok (.iconst 0, 1) := by decide +kernel
theorem dX9_leastLinen_3 : decode cX9_leastLinen 3 = .ok (.istore_n 3, 1) := by decide +kernel
theorem dX9_leastLinen_4 : decode cX9_leastLinen 4 = .ok (.iload_n 3, 1) := by decide +kernel
theorem dX9_leastLinen_5 : decode cX9_leastLinen 5 = .ok (.iconst 1, 1) := by decide +kernel
theorem dX9_leastLinen_6 : decode cX9_leastLinen 6 = .ok (.aload_n 0, 1) := by decide +kernel
theorem dX9_leastLinen_7 : decode cX9_leastLinen 7 = .ok (.getfield 18, 3) := by decide +kernel
theorem dX9_leastLinen_10 : decode cX9_leastLinen 10 = .ok (.ishl, 1) := by decide +kernel
theorem dX9_leastLinen_11 : decode cX9_leastLinen 11 = .ok (.if_icmp .ge 48, 3) := by decide +kernel
theorem dX9_leastLinen_14 : decode cX9_leastLinen 14 = .ok (.iload_n 2, 1) := by decide +kernel
theorem dX9_leastLinen_15 : decode cX9_leastLinen 15 = .ok (.iconst (-1), 1) := by decide +kernel
theorem dX9_leastLinen_16 : decode cX9_leastLinen 16 = .ok (.if_icmp .eq 14, 3) := by decide +kernel
theorem dX9_leastLinen_19 : decode cX9_leastLinen 19 = .ok (.iload_n 3, 1) := by decide +kernel
theorem dX9_leastLinen_20 : decode cX9_leastLinen 20 = .ok (.invokestatic 60, 3) := by decide +kernel
theorem dX9_leastLinen_23 : decode cX9_leastLinen 23 = .ok (.iload_n 2, 1) := by decide +kernel
theorem dX9_leastLinen_24 : decode cX9_leastLinen 24 = .ok (.invokestatic 60, 3) := by decide +kernel
theorem dX9_leastLinen_27 : decode cX9_leastLinen 27 = .ok (.if_icmp .ge 7, 3) := by decide +kernel
theorem dX9_leastLinen_30 : decode cX9_leastLinen 30 = .ok (.iconst 1, 1) := by decide +kernel
theorem dX9_leastLinen_31 : decode cX9_leastLinen 31 = .ok (.goto 4, 3) := by decide +kernel
theorem dX9_leastLinen_34 : decode cX9_leastLinen 34 = .ok (.iconst 0, 1) := by decide +kernel
theorem dX9_leastLinen_35 : decode cX9_leastLinen 35 = .ok (.istore 4, 2) := by decide +kernel
theorem dX9_leastLinen_37 : decode cX9_leastLinen 37 = .ok (.iload 4, 2) := by decide +kernel
theorem dX9_leastLinen_39 : decode cX9_leastLinen 39 = .ok (.ifCond .eq 14, 3) := by decide +kernel
theorem dX9_leastLinen_42 : decode cX9_leastLinen 42 = .ok (.aload_n 0, 1) := by decide +kernel
theorem dX9_leastLinen_43 : decode cX9_leastLinen 43 = .ok (.iload_n 3, 1) := by decide +kernel
theorem dX9_leastLinen_44 : decode cX9_leastLinen 44 = .ok (.invokevirtual 71, 3) := by decide +kernel
theorem dX9_leastLinen_47 : decode cX9_leastLinen 47 = .ok (.iload_n 1, 1) := by decide +kernel
theorem dX9_leastLinen_48 : decode cX9_leastLinen 48 = .ok (.if_icmp .lt 5, 3) := by decide +kernel
theorem dX9_leastLinen_51 : decode cX9_leastLinen 51 = .ok (.iload_n 3, 1) := by decide +kernel
theorem dX9_leastLinen_52 : decode cX9_leastLinen 52 = .ok (.istore_n 2, 1) := by decide +kernel
theorem dX9_leastLinen_53 : decode cX9_leastLinen 53 = .ok (.iinc 3 1, 3) := by decide +kernel
theorem dX9_leastLinen_56 : decode cX9_leastLinen 56 = .ok (.goto (-52), 3) := by decide +kernel
theorem dX9_leastLinen_59 : decode cX9_leastLinen 59 = .ok (.iload_n 2, 1) := by decide +kernel
theorem dX9_leastLinen_60 : decode cX9_leastLinen 60 = .ok (.ireturn, 1) := by decide +kernel
set_option maxRecDepth 100000 in
set_option maxHeartbeats 4000000 in
theorem X9_leastLinen_J53_ok {g : Gm} {w : Wd} (C : Cx g w RX9 cX9_leastLinen 5 (some .int)) {lv : Nat} (hlv : 1 < lv) {N : Nat} {r4 : Nat → Int → Int → Int → Option Int } {l0 : Nat} {l1 : Int} {l2 : Int} {l3 : Int} {m : Mem} {out : Int} (hr4 : ∀ l0 l1 l2 l3, r4 l0 l1 l2 l3 = some out → Jd g w 5 (rmL lv 0 0) (Qm g w (some (vI out)) m) 4 [some (vR l0), some (vI l1), some (vI l2), some (vI l3), none] [] 312 m 0 0) (h : X9_leastLinen_J53 N r4 l0 l1 l2 l3 m = some out) : Jd g w 5 (rmL lv 0 0) (Qm g w (some (vI out)) m) 53 [some (vR l0), some (vI l1), some (vI l2), some (vI l3), none] [] 312 m 0 0 := by
  unfold X9_leastLinen_J53 at h
  refine j_iinc (ls' := [some (vR _), some (vI _), some (vI _), some (vI _), none]) C dX9_leastLinen_53 rfl (by decide) rfl ?_
  refine j_goto C 4 dX9_leastLinen_56 rfl ?_
  exact hr4 _ _ _ _ h
set_option maxRecDepth 100000 in
set_option maxHeartbeats 4000000 in
theorem X9_leastLinen_J35_ok {g : Gm} {w : Wd} (C : Cx g w RX9 cX9_leastLinen 5 (some .int)) {lv : Nat} (hlv : 1 < lv) {N : Nat} {r4 : Nat → Int → Int → Int → Option Int } {l0 : Nat} {l1 : Int} {l2 : Int} {l3 : Int} {s0 : Int} {m : Mem} {out : Int} (hr4 : ∀ l0 l1 l2 l3, r4 l0 l1 l2 l3 = some out → Jd g w 5 (rmL lv 0 0) (Qm g w (some (vI out)) m) 4 [some (vR l0), some (vI l1), some (vI l2), some (vI l3), none] [] 312 m 0 0) (h : X9_leastLinen_J35 N r4 l0 l1 l2 l3 s0 m = some out) : Jd g w 5 (rmL lv 0 0) (Qm g w (some (vI out)) m) 35 [some (vR l0), some (vI l1), some (vI l2), some (vI l3), none] [vI s0] 312 m 0 0 := by
  unfold X9_leastLinen_J35 at h
  refine j_istore (ls' := [some (vR _), some (vI _), some (vI _), some (vI _), some (vI _)]) C dX9_leastLinen_35 (by decide) rfl ?_
  refine j_iload C dX9_leastLinen_37 rfl ?_
  refine j_if_eq C 53 dX9_leastLinen_39 rfl h (fun c4 h => ?_) (fun c4 h => ?_)
  · refine j_mask [true, true, true, true, false] (ls' := [some (vR _), some (vI _), some (vI _), some (vI _), none]) rfl ?_
    exact X9_leastLinen_J53_ok C hlv hr4 h
  · refine j_aload_n C dX9_leastLinen_42 rfl ?_
    refine j_iload_n C dX9_leastLinen_43 rfl ?_
    obtain ⟨p2, ep2, h⟩ := bind_some h
    have qp2 := X9_together_ct ep2
    refine j_cVI C dX9_leastLinen_44 vl_X9_71 CF9 rfl qp2.1 qp2.2 (by omega) rfl rfl (Nat.le_of_ble_eq_true rfl) ?_
    refine j_iload_n C dX9_leastLinen_47 rfl ?_
    refine j_icmp_lt C 53 dX9_leastLinen_48 rfl h (fun c3 h => ?_) (fun c3 h => ?_)
    · refine j_mask [true, true, true, true, false] (ls' := [some (vR _), some (vI _), some (vI _), some (vI _), none]) rfl ?_
      exact X9_leastLinen_J53_ok C hlv hr4 h
    · refine j_iload_n C dX9_leastLinen_51 rfl ?_
      refine j_istore_n (ls' := [some (vR _), some (vI _), some (vI _), some (vI _), some (vI _)]) C dX9_leastLinen_52 (by decide) rfl ?_
      refine j_mask [true, true, true, true, false] (ls' := [some (vR _), some (vI _), some (vI _), some (vI _), none]) rfl ?_
      exact X9_leastLinen_J53_ok C hlv hr4 h
set_option maxRecDepth 100000 in
set_option maxHeartbeats 4000000 in
theorem X9_leastLinen_J30_ok {g : Gm} {w : Wd} (C : Cx g w RX9 cX9_leastLinen 5 (some .int)) {lv : Nat} (hlv : 1 < lv) {N : Nat} {r4 : Nat → Int → Int → Int → Option Int } {l0 : Nat} {l1 : Int} {l2 : Int} {l3 : Int} {m : Mem} {out : Int} (hr4 : ∀ l0 l1 l2 l3, r4 l0 l1 l2 l3 = some out → Jd g w 5 (rmL lv 0 0) (Qm g w (some (vI out)) m) 4 [some (vR l0), some (vI l1), some (vI l2), some (vI l3), none] [] 312 m 0 0) (h : X9_leastLinen_J30 N r4 l0 l1 l2 l3 m = some out) : Jd g w 5 (rmL lv 0 0) (Qm g w (some (vI out)) m) 30 [some (vR l0), some (vI l1), some (vI l2), some (vI l3), none] [] 312 m 0 0 := by
  unfold X9_leastLinen_J30 at h
  refine j_iconst C dX9_leastLinen_30 rfl ?_
  refine j_goto C 35 dX9_leastLinen_31 rfl ?_
  exact X9_leastLinen_J35_ok C hlv hr4 h
set_option maxRecDepth 100000 in
set_option maxHeartbeats 4000000 in
theorem X9_leastLinen_L4_bok {g : Gm} {w : Wd} (C : Cx g w RX9 cX9_leastLinen 5 (some .int)) {lv : Nat} (hlv : 1 < lv) {N : Nat} {r4 : Nat → Int → Int → Int → Option Int} {l0 : Nat} {l1 : Int} {l2 : Int} {l3 : Int} {m : Mem} {out : Int} (hr4 : ∀ l0 l1 l2 l3, r4 l0 l1 l2 l3 = some out → Jd g w 5 (rmL lv 0 0) (Qm g w (some (vI out)) m) 4 [some (vR l0), some (vI l1), some (vI l2), some (vI l3), none] [] 312 m 0 0) (h : X9_leastLinen_L4_b N m r4 l0 l1 l2 l3 = some out) : Jd g w 5 (rmL lv 0 0) (Qm g w (some (vI out)) m) 4 [some (vR l0), some (vI l1), some (vI l2), some (vI l3), none] [] 312 m 0 0 := by
  unfold X9_leastLinen_L4_b at h
  refine j_iload_n C dX9_leastLinen_4 rfl ?_
  refine j_iconst C dX9_leastLinen_5 rfl ?_
  refine j_aload_n C dX9_leastLinen_6 rfl ?_
  refine j_getI C dX9_leastLinen_7 CF9 (by decide) fl_X9_18 rfl rfl h (fun t1 h => ?_)
  refine j_ishl C dX9_leastLinen_10 ?_
  refine j_icmp_ge C 59 dX9_leastLinen_11 rfl h (fun c9 h => ?_) (fun c9 h => ?_)
  · refine j_iload_n C dX9_leastLinen_59 rfl ?_
    exact j_ri C dX9_leastLinen_60 rfl (Option.some.inj h).symm rfl
  · refine j_iload_n C dX9_leastLinen_14 rfl ?_
    refine j_iconst C dX9_leastLinen_15 rfl ?_
    refine j_icmp_eq C 30 dX9_leastLinen_16 rfl h (fun c8 h => ?_) (fun c8 h => ?_)
    · exact X9_leastLinen_J30_ok C hlv hr4 h
    · refine j_iload_n C dX9_leastLinen_19 rfl ?_
      obtain ⟨p5, ep5, h⟩ := bind_some h
      have qp5 := J6_bitCount_0f7a4_ct ep5
      refine j_cSI C dX9_leastLinen_20 sl_X9_60 qp5 (by omega) rfl rfl (Nat.le_of_ble_eq_true rfl) ?_
      refine j_iload_n C dX9_leastLinen_23 rfl ?_
      obtain ⟨p6, ep6, h⟩ := bind_some h
      have qp6 := J6_bitCount_0f7a4_ct ep6
      refine j_cSI C dX9_leastLinen_24 sl_X9_60 qp6 (by omega) rfl rfl (Nat.le_of_ble_eq_true rfl) ?_
      refine j_icmp_ge C 34 dX9_leastLinen_27 rfl h (fun c7 h => ?_) (fun c7 h => ?_)
      · refine j_iconst C dX9_leastLinen_34 rfl ?_
        exact X9_leastLinen_J35_ok C hlv hr4 h
      · exact X9_leastLinen_J30_ok C hlv hr4 h
set_option maxRecDepth 100000 in
set_option maxHeartbeats 4000000 in
theorem X9_leastLinen_L4_ok {g : Gm} {w : Wd} (C : Cx g w RX9 cX9_leastLinen 5 (some .int)) {lv : Nat} (hlv : 1 < lv) {N : Nat} {m : Mem} {out : Int} (f : Nat) : ∀ {l0 : Nat} {l1 : Int} {l2 : Int} {l3 : Int}, X9_leastLinen_L4 N m f l0 l1 l2 l3 = some out → Jd g w 5 (rmL lv 0 0) (Qm g w (some (vI out)) m) 4 [some (vR l0), some (vI l1), some (vI l2), some (vI l3), none] [] 312 m 0 0 := by
  induction f with
  | zero => intro l0 l1 l2 l3 h; exact none_ne (α := Int) h
  | succ f ih => intro l0 l1 l2 l3 h; exact X9_leastLinen_L4_bok C hlv (fun l0 l1 l2 l3 h => ih h) h
set_option maxRecDepth 100000 in
set_option maxHeartbeats 4000000 in
theorem X9_leastLinen_ct {N : Nat} {l0 : Nat} {l1 : Int} {m : Mem} {out : Int} (h : X9_leastLinen N l0 l1 m = some out) : shK l0 = 9 + 10 ∧ CT yX9_leastLinen cX9_leastLinen 5 (some .int) 2 0 0 [vR l0, vI l1] 312 m (some (vI out)) 312 m := by
  unfold X9_leastLinen at h
  obtain ⟨hK, h⟩ := ite_some h
  have hlv : 1 < 2 := by decide
  refine ⟨hK, CT.of (by decide +kernel) rfl (Nat.le_of_ble_eq_true rfl) (ls := [some (vR l0), some (vI l1), none, none, none]) rfl fun g w C _ => ?_⟩
  refine j_iconst C dX9_leastLinen_0 rfl ?_
  refine j_istore_n (ls' := [some (vR _), some (vI _), some (vI _), none, none]) C dX9_leastLinen_1 (by decide) rfl ?_
  refine j_iconst C dX9_leastLinen_2 rfl ?_
  refine j_istore_n (ls' := [some (vR _), some (vI _), some (vI _), some (vI _), none]) C dX9_leastLinen_3 (by decide) rfl ?_
  exact X9_leastLinen_L4_ok C hlv N h
theorem dX10_linen_0 : decode cX10_linen 0 = .ok (.iload_n 1, 1) := by decide +kernel
theorem dX10_linen_1 : decode cX10_linen 1 = .ok (.ifCond .lt 12, 3) := by decide +kernel
theorem dX10_linen_4 : decode cX10_linen 4 = .ok (.iload_n 2, 1) := by decide +kernel
theorem dX10_linen_5 : decode cX10_linen 5 = .ok (.ifCond .lt 8, 3) := by decide +kernel
theorem dX10_linen_8 : decode cX10_linen 8 = .ok (.iload_n 2, 1) := by decide +kernel
theorem dX10_linen_9 : decode cX10_linen 9 = .ok (.iconst 1, 1) := by decide +kernel
theorem dX10_linen_10 : decode cX10_linen 10 = .ok (.if_icmp .le 5, 3) := by decide +kernel
theorem dX10_linen_13 : decode cX10_linen 13 = .ok (.iconst (-1), 1) := by decide +kernel
theorem dX10_linen_14 : decode cX10_linen 14 = .ok (.ireturn, 1) := by decide +kernel
theorem dX10_linen_15 : decode cX10_linen 15 = .ok (.aload_n 0, 1) := by decide +kernel
theorem dX10_linen_16 : decode cX10_linen 16 = .ok (.getfield 74, 3) := by decide +kernel
theorem dX10_linen_19 : decode cX10_linen 19 = .ok (.aload_n 0, 1) := by decide +kernel
theorem dX10_linen_20 : decode cX10_linen 20 = .ok (.getfield 27, 3) := by decide +kernel
theorem dX10_linen_23 : decode cX10_linen 23 = .ok (.aload_n 0, 1) := by decide +kernel
theorem dX10_linen_24 : decode cX10_linen 24 = .ok (.getfield 37, 3) := by decide +kernel
theorem dX10_linen_27 : decode cX10_linen 27 = .ok (.aload_n 0, 1) := by decide +kernel
theorem dX10_linen_28 : decode cX10_linen 28 = .ok (.invokevirtual 226, 3) := by decide +kernel
theorem dX10_linen_31 : decode cX10_linen 31 = .ok (.invokevirtual 326, 3) := by decide +kernel
theorem dX10_linen_34 : decode cX10_linen 34 = .ok (.aload_n 0, 1) := by decide +kernel
theorem dX10_linen_35 : decode cX10_linen 35 = .ok (.getfield 74, 3) := by decide +kernel
theorem dX10_linen_38 : decode cX10_linen 38 = .ok (.iload_n 1, 1) := by decide +kernel
theorem dX10_linen_39 : decode cX10_linen 39 = .ok (.invokevirtual 359, 3) := by decide +kernel
theorem dX10_linen_42 : decode cX10_linen 42 = .ok (.istore_n 3, 1) := by decide +kernel
theorem dX10_linen_43 : decode cX10_linen 43 = .ok (.iload_n 3, 1) := by decide +kernel
theorem dX10_linen_44 : decode cX10_linen 44 = .ok (.iconst (-1), 1) := by decide +kernel
theorem dX10_linen_45 : decode cX10_linen 45 = .ok (.if_icmp .eq 8, 3) := by decide +kernel
theorem dX10_linen_48 : decode cX10_linen 48 = .ok (.iload_n 2, 1) := by decide +kernel
theorem dX10_linen_49 : decode cX10_linen 49 = .ok (.iconst 1, 1) := by decide +kernel
theorem dX10_linen_50 : decode cX10_linen 50 = .ok (.if_icmp .ne 7, 3) := by decide +kernel
theorem dX10_linen_53 : decode cX10_linen 53 = .ok (.iload_n 3, 1) := by decide +kernel
theorem dX10_linen_54 : decode cX10_linen 54 = .ok (.goto 7, 3) := by decide +kernel
theorem dX10_linen_57 : decode cX10_linen 57 = .ok (.iload_n 3, 1) := by decide +kernel
theorem dX10_linen_58 : decode cX10_linen 58 = .ok (.invokestatic 362, 3) := by decide +kernel
theorem dX10_linen_61 : decode cX10_linen 61 = .ok (.ireturn, 1) := by decide +kernel
set_option maxRecDepth 100000 in
set_option maxHeartbeats 4000000 in
theorem X10_linen_J53_ok {g : Gm} {w : Wd} (C : Cx g w RX10 cX10_linen 4 (some .int)) {lv : Nat} (hlv : 6 < lv) {N : Nat} {l3 : Int} {m : Mem} {out : (Int × Mem)} (h : X10_linen_J53 N l3 m = some out) : Jd g w 4 (rmL lv 0 0) (Qm g w (some (vI out.1)) out.2) 53 [none, none, none, some (vI l3)] [] 312 m 0 0 := by
  unfold X10_linen_J53 at h
  refine j_iload_n C dX10_linen_53 rfl ?_
  refine j_goto C 61 dX10_linen_54 rfl ?_
  have e := Option.some.inj h
  subst e
  exact j_ri C dX10_linen_61 rfl rfl rfl
set_option maxRecDepth 100000 in
set_option maxHeartbeats 4000000 in
theorem X10_linen_ct {N : Nat} {l0 : Nat} {l1 : Int} {l2 : Int} {m : Mem} {out : (Int × Mem)} (h : X10_linen N l0 l1 l2 m = some out) : shK l0 = 10 + 10 ∧ CT yX10_linen cX10_linen 4 (some .int) 7 0 0 [vR l0, vI l1, vI l2] 312 m (some (vI out.1)) 312 out.2 := by
  unfold X10_linen at h
  obtain ⟨hK, h⟩ := ite_some h
  have hlv : 6 < 7 := by decide
  refine ⟨hK, CT.of (by decide +kernel) rfl (Nat.le_of_ble_eq_true rfl) (ls := [some (vR l0), some (vI l1), some (vI l2), none]) rfl fun g w C _ => ?_⟩
  refine j_iload_n C dX10_linen_0 rfl ?_
  refine j_if_lt C 13 dX10_linen_1 rfl h (fun c13 h => ?_) (fun c13 h => ?_)
  · refine j_iconst C dX10_linen_13 rfl ?_
    have e := Option.some.inj h
    subst e
    exact j_ri C dX10_linen_14 rfl rfl rfl
  · refine j_iload_n C dX10_linen_4 rfl ?_
    refine j_if_lt C 13 dX10_linen_5 rfl h (fun c12 h => ?_) (fun c12 h => ?_)
    · refine j_iconst C dX10_linen_13 rfl ?_
      have e := Option.some.inj h
      subst e
      exact j_ri C dX10_linen_14 rfl rfl rfl
    · refine j_iload_n C dX10_linen_8 rfl ?_
      refine j_iconst C dX10_linen_9 rfl ?_
      refine j_icmp_le C 15 dX10_linen_10 rfl h (fun c11 h => ?_) (fun c11 h => ?_)
      · refine j_aload_n C dX10_linen_15 rfl ?_
        refine j_getR C dX10_linen_16 CF10 (by decide) fl_X10_74 rfl rfl h (fun t1 h => ?_)
        refine j_aload_n C dX10_linen_19 rfl ?_
        refine j_getR C dX10_linen_20 CF10 (by decide) fl_X10_27 rfl rfl h (fun t2 h => ?_)
        refine j_aload_n C dX10_linen_23 rfl ?_
        refine j_getR C dX10_linen_24 CF10 (by decide) fl_X10_37 rfl rfl h (fun t3 h => ?_)
        refine j_aload_n C dX10_linen_27 rfl ?_
        obtain ⟨p4, ep4, h⟩ := bind_some h
        have qp4 := X10_asTold_ct ep4
        refine j_cVR C dX10_linen_28 vl_X10_226 CF10 rfl qp4.1 qp4.2 (by omega) rfl rfl (Nat.le_of_ble_eq_true rfl) ?_
        obtain ⟨p5, ep5, h⟩ := bind_some h
        have qp5 := X9_prepare_ct ep5
        refine j_cVV C dX10_linen_31 vl_X10_326 CF9 rfl qp5.1 qp5.2 (by omega) rfl rfl (Nat.le_of_ble_eq_true rfl) ?_
        refine j_aload_n C dX10_linen_34 rfl ?_
        refine j_getR C dX10_linen_35 CF10 (by decide) fl_X10_74 rfl rfl h (fun t6 h => ?_)
        refine j_iload_n C dX10_linen_38 rfl ?_
        obtain ⟨p7, ep7, h⟩ := bind_some h
        have qp7 := X9_leastLinen_ct ep7
        refine j_cVI C dX10_linen_39 vl_X10_359 CF9 rfl qp7.1 qp7.2 (by omega) rfl rfl (Nat.le_of_ble_eq_true rfl) ?_
        refine j_istore_n (ls' := [some (vR _), some (vI _), some (vI _), some (vI _)]) C dX10_linen_42 (by decide) rfl ?_
        refine j_iload_n C dX10_linen_43 rfl ?_
        refine j_iconst C dX10_linen_44 rfl ?_
        refine j_icmp_eq C 53 dX10_linen_45 rfl h (fun c10 h => ?_) (fun c10 h => ?_)
        · refine j_mask [false, false, false, true] (ls' := [none, none, none, some (vI _)]) rfl ?_
          exact X10_linen_J53_ok C hlv h
        · refine j_iload_n C dX10_linen_48 rfl ?_
          refine j_iconst C dX10_linen_49 rfl ?_
          refine j_icmp_ne C 57 dX10_linen_50 rfl h (fun c9 h => ?_) (fun c9 h => ?_)
          · refine j_iload_n C dX10_linen_57 rfl ?_
            obtain ⟨p8, ep8, h⟩ := bind_some h
            have qp8 := J6_bitCount_0f7a4_ct ep8
            refine j_cSI C dX10_linen_58 sl_X10_362 qp8 (by omega) rfl rfl (Nat.le_of_ble_eq_true rfl) ?_
            have e := Option.some.inj h
            subst e
            exact j_ri C dX10_linen_61 rfl rfl rfl
          · refine j_mask [false, false, false, true] (ls' := [none, none, none, some (vI _)]) rfl ?_
            exact X10_linen_J53_ok C hlv h
      · refine j_iconst C dX10_linen_13 rfl ?_
        have e := Option.some.inj h
        subst e
        exact j_ri C dX10_linen_14 rfl rfl rfl
theorem dX1_filled_0 : decode cX1_filled 0 = .ok (.sipush 9999, 3) := by decide +kernel
theorem dX1_filled_3 : decode cX1_filled 3 = .ok (.aload_n 0, 1) := by decide +kernel
theorem dX1_filled_4 : decode cX1_filled 4 = .ok (.getfield 18, 3) := by decide +kernel
theorem dX1_filled_7 : decode cX1_filled 7 = .ok (.iload_n 2, 1) := by decide +kernel
theorem dX1_filled_8 : decode cX1_filled 8 = .ok (.iaload, 1) := by decide +kernel
theorem dX1_filled_9 : decode cX1_filled 9 = .ok (.aload_n 1, 1) := by decide +kernel
theorem dX1_filled_10 : decode cX1_filled 10 = .ok (.getfield 42, 3) := by decide +kernel
theorem dX1_filled_13 : decode cX1_filled 13 = .ok (.iload_n 2, 1) := by decide +kernel
theorem dX1_filled_14 : decode cX1_filled 14 = .ok (.iaload, 1) := by decide +kernel
theorem dX1_filled_15 : decode cX1_filled 15 = .ok (.iadd, 1) := by decide +kernel
theorem dX1_filled_16 : decode cX1_filled 16 = .ok (.invokestatic 60, 3) := by decide +kernel
theorem dX1_filled_19 : decode cX1_filled 19 = .ok (.ireturn, 1) := by decide +kernel
set_option maxRecDepth 100000 in
set_option maxHeartbeats 4000000 in
theorem X1_filled_ct {l0 : Nat} {l1 : Nat} {l2 : Int} {m : Mem} {out : Int} (h : X1_filled l0 l1 l2 m = some out) : shK l0 = 1 + 10 ∧ CT yX1_filled cX1_filled 3 (some .int) 1 0 0 [vR l0, vR l1, vI l2] 312 m (some (vI out)) 312 m := by
  unfold X1_filled at h
  obtain ⟨hK, h⟩ := ite_some h
  have hlv : 0 < 1 := by decide
  refine ⟨hK, CT.of (by decide +kernel) rfl (Nat.le_of_ble_eq_true rfl) (ls := [some (vR l0), some (vR l1), some (vI l2)]) rfl fun g w C _ => ?_⟩
  refine j_sipush C dX1_filled_0 rfl ?_
  refine j_aload_n C dX1_filled_3 rfl ?_
  refine j_getR C dX1_filled_4 CF1 (by decide) fl_X1_18 rfl rfl h (fun t1 h => ?_)
  refine j_iload_n C dX1_filled_7 rfl ?_
  refine j_iald C dX1_filled_8 rfl h (fun t2 h => ?_)
  refine j_aload_n C dX1_filled_9 rfl ?_
  refine j_getR C dX1_filled_10 CF3 (by decide) fl_X1_42 rfl rfl h (fun t3 h => ?_)
  refine j_iload_n C dX1_filled_13 rfl ?_
  refine j_iald C dX1_filled_14 rfl h (fun t4 h => ?_)
  refine j_iadd C dX1_filled_15 ?_
  refine j_mmin C dX1_filled_16 ml_X1_60 rfl (by omega) (Nat.le_refl 0) (Nat.le_refl 0) (Nat.le_of_ble_eq_true rfl) ?_
  exact j_ri C dX1_filled_19 rfl (Option.some.inj h).symm rfl
theorem dX1_pour_0 : decode cX1_pour 0 = .ok (.iconst 0, 1) := by decide +kernel
theorem dX1_pour_1 : decode cX1_pour 1 = .ok (.istore_n 3, 1) := by decide +kernel
theorem dX1_pour_2 : decode cX1_pour 2 = .ok (.iconst 0, 1) := by decide +kernel
theorem dX1_pour_3 : decode cX1_pour 3 = .ok (.istore 4, 2) := by decide +kernel
theorem dX1_pour_5 : decode cX1_pour 5 = .ok (.iload 4, 2) := by decide +kernel
theorem dX1_pour_7 : decode cX1_pour 7 = .ok (.aload_n 1, 1) := by decide +kernel
theorem dX1_pour_8 : decode cX1_pour 8 = .ok (.getfield 37, 3) := by decide +kernel
theorem dX1_pour_11 : decode cX1_pour 11 = .ok (.if_icmp .ge 42, 3) := by decide +kernel
theorem dX1_pour_14 : decode cX1_pour 14 = .ok (.iload_n 3, 1) := by decide +kernel
theorem dX1_pour_15 : decode cX1_pour 15 = .ok (.aload_n 2, 1) := by decide +kernel
theorem dX1_pour_16 : decode cX1_pour 16 = .ok (.getfield 42, 3) := by decide +kernel
theorem dX1_pour_19 : decode cX1_pour 19 = .ok (.iload 4, 2) := by decide +kernel
theorem dX1_pour_21 : decode cX1_pour 21 = .ok (.iaload, 1) := by decide +kernel
theorem dX1_pour_22 : decode cX1_pour 22 = .ok (.iadd, 1) := by decide +kernel
theorem dX1_pour_23 : decode cX1_pour 23 = .ok (.istore_n 3, 1) := by decide +kernel
theorem dX1_pour_24 : decode cX1_pour 24 = .ok (.aload_n 0, 1) := by decide +kernel
theorem dX1_pour_25 : decode cX1_pour 25 = .ok (.getfield 18, 3) := by decide +kernel
theorem dX1_pour_28 : decode cX1_pour 28 = .ok (.iload 4, 2) := by decide +kernel
theorem dX1_pour_30 : decode cX1_pour 30 = .ok (.iconst 0, 1) := by decide +kernel
theorem dX1_pour_31 : decode cX1_pour 31 = .ok (.aload_n 0, 1) := by decide +kernel
theorem dX1_pour_32 : decode cX1_pour 32 = .ok (.aload_n 2, 1) := by decide +kernel
theorem dX1_pour_33 : decode cX1_pour 33 = .ok (.iload 4, 2) := by decide +kernel
theorem dX1_pour_35 : decode cX1_pour 35 = .ok (.invokevirtual 47, 3) := by decide +kernel
theorem dX1_pour_38 : decode cX1_pour 38 = .ok (.aload_n 1, 1) := by decide +kernel
theorem dX1_pour_39 : decode cX1_pour 39 = .ok (.getfield 51, 3) := by decide +kernel
theorem dX1_pour_42 : decode cX1_pour 42 = .ok (.isub, 1) := by decide +kernel
theorem dX1_pour_43 : decode cX1_pour 43 = .ok (.invokestatic 54, 3) := by decide +kernel
theorem dX1_pour_46 : decode cX1_pour 46 = .ok (.iastore, 1) := by decide +kernel
theorem dX1_pour_47 : decode cX1_pour 47 = .ok (.iinc 4 1, 3) := by decide +kernel
theorem dX1_pour_50 : decode cX1_pour 50 = .ok (.goto (-45), 3) := by decide +kernel
theorem dX1_pour_53 : decode cX1_pour 53 = .ok (.aload_n 0, 1) := by decide +kernel
theorem dX1_pour_54 : decode cX1_pour 54 = .ok (.dup, 1) := by decide +kernel
theorem dX1_pour_55 : decode cX1_pour 55 = .ok (.getfield 21, 3) := by decide +kernel
theorem dX1_pour_58 : decode cX1_pour 58 = .ok (.iconst 1, 1) := by decide +kernel
theorem dX1_pour_59 : decode cX1_pour 59 = .ok (.iadd, 1) := by decide +kernel
theorem dX1_pour_60 : decode cX1_pour 60 = .ok (.putfield 21, 3) := by decide +kernel
theorem dX1_pour_63 : decode cX1_pour 63 = .ok (.iload_n 3, 1) := by decide +kernel
theorem dX1_pour_64 : decode cX1_pour 64 = .ok (.ireturn, 1) := by decide +kernel
set_option maxRecDepth 100000 in
set_option maxHeartbeats 4000000 in
theorem X1_pour_L5_bok {g : Gm} {w : Wd} (C : Cx g w RX1 cX1_pour 5 (some .int)) {lv : Nat} (hlv : 1 < lv) {N : Nat} {k53 : Nat → Int → Mem → Option (Int × Mem)} {r5 : Nat → Nat → Nat → Int → Int → Mem → Option (Int × Mem)} {l0 : Nat} {l1 : Nat} {l2 : Nat} {l3 : Int} {l4 : Int} {m : Mem} {out : (Int × Mem)} (hk53 : ∀ l0 l3 m, k53 l0 l3 m = some out → Jd g w 5 (rmL lv 0 0) (Qm g w (some (vI out.1)) out.2) 53 [some (vR l0), none, none, some (vI l3), none] [] 312 m 0 0) (hr5 : ∀ l0 l1 l2 l3 l4 m, r5 l0 l1 l2 l3 l4 m = some out → Jd g w 5 (rmL lv 0 0) (Qm g w (some (vI out.1)) out.2) 5 [some (vR l0), some (vR l1), some (vR l2), some (vI l3), some (vI l4)] [] 312 m 0 0) (h : X1_pour_L5_b N k53 r5 l0 l1 l2 l3 l4 m = some out) : Jd g w 5 (rmL lv 0 0) (Qm g w (some (vI out.1)) out.2) 5 [some (vR l0), some (vR l1), some (vR l2), some (vI l3), some (vI l4)] [] 312 m 0 0 := by
  unfold X1_pour_L5_b at h
  refine j_iload C dX1_pour_5 rfl ?_
  refine j_aload_n C dX1_pour_7 rfl ?_
  refine j_getI C dX1_pour_8 CF5 (by decide) fl_X1_37 rfl rfl h (fun t1 h => ?_)
  refine j_icmp_ge C 53 dX1_pour_11 rfl h (fun c8 h => ?_) (fun c8 h => ?_)
  · refine j_mask [true, false, false, true, false] (ls' := [some (vR _), none, none, some (vI _), none]) rfl ?_
    exact hk53 _ _ _ h
  · refine j_iload_n C dX1_pour_14 rfl ?_
    refine j_aload_n C dX1_pour_15 rfl ?_
    refine j_getR C dX1_pour_16 CF3 (by decide) fl_X1_42 rfl rfl h (fun t2 h => ?_)
    refine j_iload C dX1_pour_19 rfl ?_
    refine j_iald C dX1_pour_21 rfl h (fun t3 h => ?_)
    refine j_iadd C dX1_pour_22 ?_
    refine j_istore_n (ls' := [some (vR _), some (vR _), some (vR _), some (vI _), some (vI _)]) C dX1_pour_23 (by decide) rfl ?_
    refine j_aload_n C dX1_pour_24 rfl ?_
    refine j_getR C dX1_pour_25 CF1 (by decide) fl_X1_18 rfl rfl h (fun t4 h => ?_)
    refine j_iload C dX1_pour_28 rfl ?_
    refine j_iconst C dX1_pour_30 rfl ?_
    refine j_aload_n C dX1_pour_31 rfl ?_
    refine j_aload_n C dX1_pour_32 rfl ?_
    refine j_iload C dX1_pour_33 rfl ?_
    obtain ⟨p5, ep5, h⟩ := bind_some h
    have qp5 := X1_filled_ct ep5
    refine j_cVI C dX1_pour_35 vl_X1_47 CF1 rfl qp5.1 qp5.2 (by omega) rfl rfl (Nat.le_of_ble_eq_true rfl) ?_
    refine j_aload_n C dX1_pour_38 rfl ?_
    refine j_getI C dX1_pour_39 CF5 (by decide) fl_X1_51 rfl rfl h (fun t6 h => ?_)
    refine j_isub C dX1_pour_42 ?_
    refine j_mmax C dX1_pour_43 ml_X1_54 rfl (by omega) (Nat.le_refl 0) (Nat.le_refl 0) (Nat.le_of_ble_eq_true rfl) ?_
    refine j_iast C dX1_pour_46 rfl h (fun m7 h => ?_)
    refine j_iinc (ls' := [some (vR _), some (vR _), some (vR _), some (vI _), some (vI _)]) C dX1_pour_47 rfl (by decide) rfl ?_
    refine j_goto C 5 dX1_pour_50 rfl ?_
    exact hr5 _ _ _ _ _ _ h
set_option maxRecDepth 100000 in
set_option maxHeartbeats 4000000 in
theorem X1_pour_L5_ok {g : Gm} {w : Wd} (C : Cx g w RX1 cX1_pour 5 (some .int)) {lv : Nat} (hlv : 1 < lv) {N : Nat} {k53 : Nat → Int → Mem → Option (Int × Mem)} {out : (Int × Mem)} (hk53 : ∀ l0 l3 m, k53 l0 l3 m = some out → Jd g w 5 (rmL lv 0 0) (Qm g w (some (vI out.1)) out.2) 53 [some (vR l0), none, none, some (vI l3), none] [] 312 m 0 0) (f : Nat) : ∀ {l0 : Nat} {l1 : Nat} {l2 : Nat} {l3 : Int} {l4 : Int} {m : Mem}, X1_pour_L5 N k53 f l0 l1 l2 l3 l4 m = some out → Jd g w 5 (rmL lv 0 0) (Qm g w (some (vI out.1)) out.2) 5 [some (vR l0), some (vR l1), some (vR l2), some (vI l3), some (vI l4)] [] 312 m 0 0 := by
  induction f with
  | zero => intro l0 l1 l2 l3 l4 m h; exact none_ne (α := (Int × Mem)) h
  | succ f ih => intro l0 l1 l2 l3 l4 m h; exact X1_pour_L5_bok C hlv hk53 (fun l0 l1 l2 l3 l4 m h => ih h) h
set_option maxRecDepth 100000 in
set_option maxHeartbeats 4000000 in
theorem X1_pour_ct {N : Nat} {l0 : Nat} {l1 : Nat} {l2 : Nat} {m : Mem} {out : (Int × Mem)} (h : X1_pour N l0 l1 l2 m = some out) : shK l0 = 1 + 10 ∧ CT yX1_pour cX1_pour 5 (some .int) 2 0 0 [vR l0, vR l1, vR l2] 312 m (some (vI out.1)) 312 out.2 := by
  unfold X1_pour at h
  obtain ⟨hK, h⟩ := ite_some h
  have hlv : 1 < 2 := by decide
  refine ⟨hK, CT.of (by decide +kernel) rfl (Nat.le_of_ble_eq_true rfl) (ls := [some (vR l0), some (vR l1), some (vR l2), none, none]) rfl fun g w C _ => ?_⟩
  refine j_iconst C dX1_pour_0 rfl ?_
  refine j_istore_n (ls' := [some (vR _), some (vR _), some (vR _), some (vI _), none]) C dX1_pour_1 (by decide) rfl ?_
  refine j_iconst C dX1_pour_2 rfl ?_
  refine j_istore (ls' := [some (vR _), some (vR _), some (vR _), some (vI _), some (vI _)]) C dX1_pour_3 (by decide) rfl ?_
  refine X1_pour_L5_ok C hlv (fun z9 z10 m11 h => ?_) N h
  refine j_aload_n C dX1_pour_53 rfl ?_
  refine j_dup C dX1_pour_54 rfl ?_
  refine j_getI C dX1_pour_55 CF1 (by decide) fl_X1_21 rfl rfl h (fun t12 h => ?_)
  refine j_iconst C dX1_pour_58 rfl ?_
  refine j_iadd C dX1_pour_59 ?_
  refine j_putI C dX1_pour_60 CF1 (by decide) fl_X1_21 rfl rfl rfl rfl h (fun m13 h => ?_)
  refine j_iload_n C dX1_pour_63 rfl ?_
  have e := Option.some.inj h
  subst e
  exact j_ri C dX1_pour_64 rfl rfl rfl
theorem dX10_night_0 : decode cX10_night 0 = .ok (.aload_n 0, 1) := by decide +kernel
theorem dX10_night_1 : decode cX10_night 1 = .ok (.iconst 1, 1) := by decide +kernel
theorem dX10_night_2 : decode cX10_night 2 = .ok (.invokevirtual 300, 3) := by decide +kernel
theorem dX10_night_5 : decode cX10_night 5 = .ok (.ifCond .ne 9, 3) := by decide +kernel
theorem dX10_night_8 : decode cX10_night 8 = .ok (.aload_n 0, 1) := by decide +kernel
theorem dX10_night_9 : decode cX10_night 9 = .ok (.iconst 3, 1) := by decide +kernel
theorem dX10_night_10 : decode cX10_night 10 = .ok (.invokevirtual 101, 3) := by decide +kernel
theorem dX10_night_13 : decode cX10_night 13 = .ok (.ireturn, 1) := by decide +kernel
theorem dX10_night_14 : decode cX10_night 14 = .ok (.aload_n 0, 1) := by decide +kernel
theorem dX10_night_15 : decode cX10_night 15 = .ok (.getfield 47, 3) := by decide +kernel
theorem dX10_night_18 : decode cX10_night 18 = .ok (.aload_n 0, 1) := by decide +kernel
theorem dX10_night_19 : decode cX10_night 19 = .ok (.getfield 37, 3) := by decide +kernel
theorem dX10_night_22 : decode cX10_night 22 = .ok (.invokevirtual 288, 3) := by decide +kernel
theorem dX10_night_25 : decode cX10_night 25 = .ok (.aload_n 0, 1) := by decide +kernel
theorem dX10_night_26 : decode cX10_night 26 = .ok (.getfield 37, 3) := by decide +kernel
theorem dX10_night_29 : decode cX10_night 29 = .ok (.aload_n 0, 1) := by decide +kernel
theorem dX10_night_30 : decode cX10_night 30 = .ok (.getfield 27, 3) := by decide +kernel
theorem dX10_night_33 : decode cX10_night 33 = .ok (.aload_n 0, 1) := by decide +kernel
theorem dX10_night_34 : decode cX10_night 34 = .ok (.invokevirtual 226, 3) := by decide +kernel
theorem dX10_night_37 : decode cX10_night 37 = .ok (.invokevirtual 303, 3) := by decide +kernel
theorem dX10_night_40 : decode cX10_night 40 = .ok (.ireturn, 1) := by decide +kernel
set_option maxRecDepth 100000 in
set_option maxHeartbeats 4000000 in
theorem X10_night_ct {N : Nat} {l0 : Nat} {m : Mem} {out : (Int × Mem)} (h : X10_night N l0 m = some out) : shK l0 = 10 + 10 ∧ CT yX10_night cX10_night 1 (some .int) 7 0 0 [vR l0] 312 m (some (vI out.1)) 312 out.2 := by
  unfold X10_night at h
  obtain ⟨hK, h⟩ := ite_some h
  have hlv : 6 < 7 := by decide
  refine ⟨hK, CT.of (by decide +kernel) rfl (Nat.le_of_ble_eq_true rfl) (ls := [some (vR l0)]) rfl fun g w C _ => ?_⟩
  refine j_aload_n C dX10_night_0 rfl ?_
  refine j_iconst C dX10_night_1 rfl ?_
  obtain ⟨p1, ep1, h⟩ := bind_some h
  have qp1 := X10_canPass_ct ep1
  refine j_cVI C dX10_night_2 vl_X10_300 CF10 rfl qp1.1 qp1.2 (by omega) rfl rfl (Nat.le_of_ble_eq_true rfl) ?_
  refine j_if_ne C 14 dX10_night_5 rfl h (fun c10 h => ?_) (fun c10 h => ?_)
  · refine j_aload_n C dX10_night_14 rfl ?_
    refine j_getR C dX10_night_15 CF10 (by decide) fl_X10_47 rfl rfl h (fun t2 h => ?_)
    refine j_aload_n C dX10_night_18 rfl ?_
    refine j_getR C dX10_night_19 CF10 (by decide) fl_X10_37 rfl rfl h (fun t3 h => ?_)
    obtain ⟨p4, ep4, h⟩ := bind_some h
    have qp4 := X4_remember_ct ep4
    refine j_cVV C dX10_night_22 vl_X10_288 CF4 rfl qp4.1 qp4.2 (by omega) rfl rfl (Nat.le_of_ble_eq_true rfl) ?_
    refine j_aload_n C dX10_night_25 rfl ?_
    refine j_getR C dX10_night_26 CF10 (by decide) fl_X10_37 rfl rfl h (fun t5 h => ?_)
    refine j_aload_n C dX10_night_29 rfl ?_
    refine j_getR C dX10_night_30 CF10 (by decide) fl_X10_27 rfl rfl h (fun t6 h => ?_)
    refine j_aload_n C dX10_night_33 rfl ?_
    obtain ⟨p7, ep7, h⟩ := bind_some h
    have qp7 := X10_asTold_ct ep7
    refine j_cVR C dX10_night_34 vl_X10_226 CF10 rfl qp7.1 qp7.2 (by omega) rfl rfl (Nat.le_of_ble_eq_true rfl) ?_
    obtain ⟨p8, ep8, h⟩ := bind_some h
    have qp8 := X1_pour_ct ep8
    refine j_cVI C dX10_night_37 vl_X10_303 CF1 rfl qp8.1 qp8.2 (by omega) rfl rfl (Nat.le_of_ble_eq_true rfl) ?_
    have e := Option.some.inj h
    subst e
    exact j_ri C dX10_night_40 rfl rfl rfl
  · refine j_aload_n C dX10_night_8 rfl ?_
    refine j_iconst C dX10_night_9 rfl ?_
    obtain ⟨p9, ep9, h⟩ := bind_some h
    have qp9 := X10_refuse_ct ep9
    refine j_cVI C dX10_night_10 vl_X10_101 CF10 rfl qp9.1 qp9.2 (by omega) rfl rfl (Nat.le_of_ble_eq_true rfl) ?_
    have e := Option.some.inj h
    subst e
    exact j_ri C dX10_night_13 rfl rfl rfl
theorem dX10_nights_0 : decode cX10_nights 0 = .ok (.iload_n 1, 1) := by decide +kernel
theorem dX10_nights_1 : decode cX10_nights 1 = .ok (.iconst 1, 1) := by decide +kernel
theorem dX10_nights_2 : decode cX10_nights 2 = .ok (.if_icmp .lt 17, 3) := by decide +kernel
theorem dX10_nights_5 : decode cX10_nights 5 = .ok (.iload_n 1, 1) := by decide +kernel
theorem dX10_nights_6 : decode cX10_nights 6 = .ok (.bipush 40, 2) := by decide +kernel
theorem dX10_nights_8 : decode cX10_nights 8 = .ok (.if_icmp .gt 11, 3) := by decide +kernel
theorem dX10_nights_11 : decode cX10_nights 11 = .ok (.aload_n 0, 1) := by decide +kernel
theorem dX10_nights_12 : decode cX10_nights 12 = .ok (.iload_n 1, 1) := by decide +kernel
theorem dX10_nights_13 : decode cX10_nights 13 = .ok (.invokevirtual 300, 3) := by decide +kernel
theorem dX10_nights_16 : decode cX10_nights 16 = .ok (.ifCond .ne 9, 3) := by decide +kernel
theorem dX10_nights_19 : decode cX10_nights 19 = .ok (.aload_n 0, 1) := by decide +kernel
theorem dX10_nights_20 : decode cX10_nights 20 = .ok (.iconst 3, 1) := by decide +kernel
theorem dX10_nights_21 : decode cX10_nights 21 = .ok (.invokevirtual 101, 3) := by decide +kernel
theorem dX10_nights_24 : decode cX10_nights 24 = .ok (.ireturn, 1) := by decide +kernel
theorem dX10_nights_25 : decode cX10_nights 25 = .ok (.aload_n 0, 1) := by decide +kernel
theorem dX10_nights_26 : decode cX10_nights 26 = .ok (.getfield 47, 3) := by decide +kernel
theorem dX10_nights_29 : decode cX10_nights 29 = .ok (.aload_n 0, 1) := by decide +kernel
theorem dX10_nights_30 : decode cX10_nights 30 = .ok (.getfield 37, 3) := by decide +kernel
theorem dX10_nights_33 : decode cX10_nights 33 = .ok (.invokevirtual 288, 3) := by decide +kernel
theorem dX10_nights_36 : decode cX10_nights 36 = .ok (.iconst 0, 1) := by decide +kernel
theorem dX10_nights_37 : decode cX10_nights 37 = .ok (.istore_n 2, 1) := by decide +kernel
theorem dX10_nights_38 : decode cX10_nights 38 = .ok (.iconst 0, 1) := by decide +kernel
theorem dX10_nights_39 : decode cX10_nights 39 = .ok (.istore_n 3, 1) := by decide +kernel
theorem dX10_nights_40 : decode cX10_nights 40 = .ok (.iload_n 3, 1) := by decide +kernel
theorem dX10_nights_41 : decode cX10_nights 41 = .ok (.iload_n 1, 1) := by decide +kernel
theorem dX10_nights_42 : decode cX10_nights 42 = .ok (.if_icmp .ge 50, 3) := by decide +kernel
theorem dX10_nights_45 : decode cX10_nights 45 = .ok (.aload_n 0, 1) := by decide +kernel
theorem dX10_nights_46 : decode cX10_nights 46 = .ok (.invokevirtual 307, 3) := by decide +kernel
theorem dX10_nights_49 : decode cX10_nights 49 = .ok (.aload_n 0, 1) := by decide +kernel
theorem dX10_nights_50 : decode cX10_nights 50 = .ok (.getfield 61, 3) := by decide +kernel
theorem dX10_nights_53 : decode cX10_nights 53 = .ok (.aload_n 0, 1) := by decide +kernel
theorem dX10_nights_54 : decode cX10_nights 54 = .ok (.getfield 27, 3) := by decide +kernel
theorem dX10_nights_57 : decode cX10_nights 57 = .ok (.aload_n 0, 1) := by decide +kernel
theorem dX10_nights_58 : decode cX10_nights 58 = .ok (.getfield 37, 3) := by decide +kernel
theorem dX10_nights_61 : decode cX10_nights 61 = .ok (.aload_n 0, 1) := by decide +kernel
theorem dX10_nights_62 : decode cX10_nights 62 = .ok (.getfield 64, 3) := by decide +kernel
theorem dX10_nights_65 : decode cX10_nights 65 = .ok (.invokevirtual 310, 3) := by decide +kernel
theorem dX10_nights_68 : decode cX10_nights 68 = .ok (.iload_n 2, 1) := by decide +kernel
theorem dX10_nights_69 : decode cX10_nights 69 = .ok (.aload_n 0, 1) := by decide +kernel
theorem dX10_nights_70 : decode cX10_nights 70 = .ok (.getfield 37, 3) := by decide +kernel
theorem dX10_nights_73 : decode cX10_nights 73 = .ok (.aload_n 0, 1) := by decide +kernel
theorem dX10_nights_74 : decode cX10_nights 74 = .ok (.getfield 27, 3) := by decide +kernel
theorem dX10_nights_77 : decode cX10_nights 77 = .ok (.aload_n 0, 1) := by decide +kernel
theorem dX10_nights_78 : decode cX10_nights 78 = .ok (.getfield 61, 3) := by decide +kernel
theorem dX10_nights_81 : decode cX10_nights 81 = .ok (.invokevirtual 303, 3) := by decide +kernel
theorem dX10_nights_84 : decode cX10_nights 84 = .ok (.iadd, 1) := by decide +kernel
theorem dX10_nights_85 : decode cX10_nights 85 = .ok (.istore_n 2, 1) := by decide +kernel
theorem dX10_nights_86 : decode cX10_nights 86 = .ok (.iinc 3 1, 3) := by decide +kernel
theorem dX10_nights_89 : decode cX10_nights 89 = .ok (.goto (-49), 3) := by decide +kernel
theorem dX10_nights_92 : decode cX10_nights 92 = .ok (.iload_n 2, 1) := by decide +kernel
theorem dX10_nights_93 : decode cX10_nights 93 = .ok (.ireturn, 1) := by decide +kernel
set_option maxRecDepth 100000 in
set_option maxHeartbeats 4000000 in
theorem X10_nights_J19_ok {g : Gm} {w : Wd} (C : Cx g w RX10 cX10_nights 4 (some .int)) {lv : Nat} (hlv : 5 < lv) {N : Nat} {l0 : Nat} {m : Mem} {out : (Int × Mem)} (h : X10_nights_J19 N l0 m = some out) : Jd g w 4 (rmL lv 0 0) (Qm g w (some (vI out.1)) out.2) 19 [some (vR l0), none, none, none] [] 312 m 0 0 := by
  unfold X10_nights_J19 at h
  refine j_aload_n C dX10_nights_19 rfl ?_
  refine j_iconst C dX10_nights_20 rfl ?_
  obtain ⟨p1, ep1, h⟩ := bind_some h
  have qp1 := X10_refuse_ct ep1
  refine j_cVI C dX10_nights_21 vl_X10_101 CF10 rfl qp1.1 qp1.2 (by omega) rfl rfl (Nat.le_of_ble_eq_true rfl) ?_
  have e := Option.some.inj h
  subst e
  exact j_ri C dX10_nights_24 rfl rfl rfl
set_option maxRecDepth 100000 in
set_option maxHeartbeats 4000000 in
theorem X10_nights_L40_bok {g : Gm} {w : Wd} (C : Cx g w RX10 cX10_nights 4 (some .int)) {lv : Nat} (hlv : 5 < lv) {N : Nat} {r40 : Nat → Int → Int → Int → Mem → Option (Int × Mem)} {l0 : Nat} {l1 : Int} {l2 : Int} {l3 : Int} {m : Mem} {out : (Int × Mem)} (hr40 : ∀ l0 l1 l2 l3 m, r40 l0 l1 l2 l3 m = some out → Jd g w 4 (rmL lv 0 0) (Qm g w (some (vI out.1)) out.2) 40 [some (vR l0), some (vI l1), some (vI l2), some (vI l3)] [] 312 m 0 0) (h : X10_nights_L40_b N r40 l0 l1 l2 l3 m = some out) : Jd g w 4 (rmL lv 0 0) (Qm g w (some (vI out.1)) out.2) 40 [some (vR l0), some (vI l1), some (vI l2), some (vI l3)] [] 312 m 0 0 := by
  unfold X10_nights_L40_b at h
  refine j_iload_n C dX10_nights_40 rfl ?_
  refine j_iload_n C dX10_nights_41 rfl ?_
  refine j_icmp_ge C 92 dX10_nights_42 rfl h (fun c16 h => ?_) (fun c16 h => ?_)
  · refine j_iload_n C dX10_nights_92 rfl ?_
    have e := Option.some.inj h
    subst e
    exact j_ri C dX10_nights_93 rfl rfl rfl
  · refine j_aload_n C dX10_nights_45 rfl ?_
    obtain ⟨p6, ep6, h⟩ := bind_some h
    have qp6 := X10_drawSky_ct ep6
    refine j_cVV C dX10_nights_46 vl_X10_307 CF10 rfl qp6.1 qp6.2 (by omega) rfl rfl (Nat.le_of_ble_eq_true rfl) ?_
    refine j_aload_n C dX10_nights_49 rfl ?_
    refine j_getR C dX10_nights_50 CF10 (by decide) fl_X10_61 rfl rfl h (fun t7 h => ?_)
    refine j_aload_n C dX10_nights_53 rfl ?_
    refine j_getR C dX10_nights_54 CF10 (by decide) fl_X10_27 rfl rfl h (fun t8 h => ?_)
    refine j_aload_n C dX10_nights_57 rfl ?_
    refine j_getR C dX10_nights_58 CF10 (by decide) fl_X10_37 rfl rfl h (fun t9 h => ?_)
    refine j_aload_n C dX10_nights_61 rfl ?_
    refine j_getR C dX10_nights_62 CF10 (by decide) fl_X10_64 rfl rfl h (fun t10 h => ?_)
    obtain ⟨p11, ep11, h⟩ := bind_some h
    have qp11 := X3_pass_ct ep11
    refine j_cVV C dX10_nights_65 vl_X10_310 CF3 rfl qp11.1 qp11.2 (by omega) rfl rfl (Nat.le_of_ble_eq_true rfl) ?_
    refine j_iload_n C dX10_nights_68 rfl ?_
    refine j_aload_n C dX10_nights_69 rfl ?_
    refine j_getR C dX10_nights_70 CF10 (by decide) fl_X10_37 rfl rfl h (fun t12 h => ?_)
    refine j_aload_n C dX10_nights_73 rfl ?_
    refine j_getR C dX10_nights_74 CF10 (by decide) fl_X10_27 rfl rfl h (fun t13 h => ?_)
    refine j_aload_n C dX10_nights_77 rfl ?_
    refine j_getR C dX10_nights_78 CF10 (by decide) fl_X10_61 rfl rfl h (fun t14 h => ?_)
    obtain ⟨p15, ep15, h⟩ := bind_some h
    have qp15 := X1_pour_ct ep15
    refine j_cVI C dX10_nights_81 vl_X10_303 CF1 rfl qp15.1 qp15.2 (by omega) rfl rfl (Nat.le_of_ble_eq_true rfl) ?_
    refine j_iadd C dX10_nights_84 ?_
    refine j_istore_n (ls' := [some (vR _), some (vI _), some (vI _), some (vI _)]) C dX10_nights_85 (by decide) rfl ?_
    refine j_iinc (ls' := [some (vR _), some (vI _), some (vI _), some (vI _)]) C dX10_nights_86 rfl (by decide) rfl ?_
    refine j_goto C 40 dX10_nights_89 rfl ?_
    exact hr40 _ _ _ _ _ h
set_option maxRecDepth 100000 in
set_option maxHeartbeats 4000000 in
theorem X10_nights_L40_ok {g : Gm} {w : Wd} (C : Cx g w RX10 cX10_nights 4 (some .int)) {lv : Nat} (hlv : 5 < lv) {N : Nat} {out : (Int × Mem)} (f : Nat) : ∀ {l0 : Nat} {l1 : Int} {l2 : Int} {l3 : Int} {m : Mem}, X10_nights_L40 N f l0 l1 l2 l3 m = some out → Jd g w 4 (rmL lv 0 0) (Qm g w (some (vI out.1)) out.2) 40 [some (vR l0), some (vI l1), some (vI l2), some (vI l3)] [] 312 m 0 0 := by
  induction f with
  | zero => intro l0 l1 l2 l3 m h; exact none_ne (α := (Int × Mem)) h
  | succ f ih => intro l0 l1 l2 l3 m h; exact X10_nights_L40_bok C hlv (fun l0 l1 l2 l3 m h => ih h) h
set_option maxRecDepth 100000 in
set_option maxHeartbeats 4000000 in
theorem X10_nights_ct {N : Nat} {l0 : Nat} {l1 : Int} {m : Mem} {out : (Int × Mem)} (h : X10_nights N l0 l1 m = some out) : shK l0 = 10 + 10 ∧ CT yX10_nights cX10_nights 4 (some .int) 6 0 0 [vR l0, vI l1] 312 m (some (vI out.1)) 312 out.2 := by
  unfold X10_nights at h
  obtain ⟨hK, h⟩ := ite_some h
  have hlv : 5 < 6 := by decide
  refine ⟨hK, CT.of (by decide +kernel) rfl (Nat.le_of_ble_eq_true rfl) (ls := [some (vR l0), some (vI l1), none, none]) rfl fun g w C _ => ?_⟩
  refine j_iload_n C dX10_nights_0 rfl ?_
  refine j_iconst C dX10_nights_1 rfl ?_
  refine j_icmp_lt C 19 dX10_nights_2 rfl h (fun c19 h => ?_) (fun c19 h => ?_)
  · refine j_mask [true, false, false, false] (ls' := [some (vR _), none, none, none]) rfl ?_
    exact X10_nights_J19_ok C hlv h
  · refine j_iload_n C dX10_nights_5 rfl ?_
    refine j_bipush C dX10_nights_6 rfl ?_
    refine j_icmp_gt C 19 dX10_nights_8 rfl h (fun c18 h => ?_) (fun c18 h => ?_)
    · refine j_mask [true, false, false, false] (ls' := [some (vR _), none, none, none]) rfl ?_
      exact X10_nights_J19_ok C hlv h
    · refine j_aload_n C dX10_nights_11 rfl ?_
      refine j_iload_n C dX10_nights_12 rfl ?_
      obtain ⟨p2, ep2, h⟩ := bind_some h
      have qp2 := X10_canPass_ct ep2
      refine j_cVI C dX10_nights_13 vl_X10_300 CF10 rfl qp2.1 qp2.2 (by omega) rfl rfl (Nat.le_of_ble_eq_true rfl) ?_
      refine j_if_ne C 25 dX10_nights_16 rfl h (fun c17 h => ?_) (fun c17 h => ?_)
      · refine j_aload_n C dX10_nights_25 rfl ?_
        refine j_getR C dX10_nights_26 CF10 (by decide) fl_X10_47 rfl rfl h (fun t3 h => ?_)
        refine j_aload_n C dX10_nights_29 rfl ?_
        refine j_getR C dX10_nights_30 CF10 (by decide) fl_X10_37 rfl rfl h (fun t4 h => ?_)
        obtain ⟨p5, ep5, h⟩ := bind_some h
        have qp5 := X4_remember_ct ep5
        refine j_cVV C dX10_nights_33 vl_X10_288 CF4 rfl qp5.1 qp5.2 (by omega) rfl rfl (Nat.le_of_ble_eq_true rfl) ?_
        refine j_iconst C dX10_nights_36 rfl ?_
        refine j_istore_n (ls' := [some (vR _), some (vI _), some (vI _), none]) C dX10_nights_37 (by decide) rfl ?_
        refine j_iconst C dX10_nights_38 rfl ?_
        refine j_istore_n (ls' := [some (vR _), some (vI _), some (vI _), some (vI _)]) C dX10_nights_39 (by decide) rfl ?_
        exact X10_nights_L40_ok C hlv N h
      · refine j_mask [true, false, false, false] (ls' := [some (vR _), none, none, none]) rfl ?_
        exact X10_nights_J19_ok C hlv h
theorem dX10_octet_0 : decode cX10_octet 0 = .ok (.iload_n 1, 1) := by decide +kernel
theorem dX10_octet_1 : decode cX10_octet 1 = .ok (.ifCond .lt 20, 3) := by decide +kernel
theorem dX10_octet_4 : decode cX10_octet 4 = .ok (.iload_n 1, 1) := by decide +kernel
theorem dX10_octet_5 : decode cX10_octet 5 = .ok (.aload_n 0, 1) := by decide +kernel
theorem dX10_octet_6 : decode cX10_octet 6 = .ok (.getfield 95, 3) := by decide +kernel
theorem dX10_octet_9 : decode cX10_octet 9 = .ok (.if_icmp .ge 12, 3) := by decide +kernel
theorem dX10_octet_12 : decode cX10_octet 12 = .ok (.aload_n 0, 1) := by decide +kernel
theorem dX10_octet_13 : decode cX10_octet 13 = .ok (.getfield 92, 3) := by decide +kernel
theorem dX10_octet_16 : decode cX10_octet 16 = .ok (.iload_n 1, 1) := by decide +kernel
theorem dX10_octet_17 : decode cX10_octet 17 = .ok (.iaload, 1) := by decide +kernel
theorem dX10_octet_18 : decode cX10_octet 18 = .ok (.goto 4, 3) := by decide +kernel
theorem dX10_octet_21 : decode cX10_octet 21 = .ok (.iconst (-1), 1) := by decide +kernel
theorem dX10_octet_22 : decode cX10_octet 22 = .ok (.ireturn, 1) := by decide +kernel
set_option maxRecDepth 100000 in
set_option maxHeartbeats 4000000 in
theorem X10_octet_ct {l0 : Nat} {l1 : Int} {m : Mem} {out : Int} (h : X10_octet l0 l1 m = some out) : shK l0 = 10 + 10 ∧ CT yX10_octet cX10_octet 2 (some .int) 1 0 0 [vR l0, vI l1] 312 m (some (vI out)) 312 m := by
  unfold X10_octet at h
  obtain ⟨hK, h⟩ := ite_some h
  have hlv : 0 < 1 := by decide
  refine ⟨hK, CT.of (by decide +kernel) rfl (Nat.le_of_ble_eq_true rfl) (ls := [some (vR l0), some (vI l1)]) rfl fun g w C _ => ?_⟩
  refine j_iload_n C dX10_octet_0 rfl ?_
  refine j_if_lt C 21 dX10_octet_1 rfl h (fun c5 h => ?_) (fun c5 h => ?_)
  · refine j_iconst C dX10_octet_21 rfl ?_
    exact j_ri C dX10_octet_22 rfl (Option.some.inj h).symm rfl
  · refine j_iload_n C dX10_octet_4 rfl ?_
    refine j_aload_n C dX10_octet_5 rfl ?_
    refine j_getI C dX10_octet_6 CF10 (by decide) fl_X10_95 rfl rfl h (fun t1 h => ?_)
    refine j_icmp_ge C 21 dX10_octet_9 rfl h (fun c4 h => ?_) (fun c4 h => ?_)
    · refine j_iconst C dX10_octet_21 rfl ?_
      exact j_ri C dX10_octet_22 rfl (Option.some.inj h).symm rfl
    · refine j_aload_n C dX10_octet_12 rfl ?_
      refine j_getR C dX10_octet_13 CF10 (by decide) fl_X10_92 rfl rfl h (fun t2 h => ?_)
      refine j_iload_n C dX10_octet_16 rfl ?_
      refine j_iald C dX10_octet_17 rfl h (fun t3 h => ?_)
      refine j_goto C 22 dX10_octet_18 rfl ?_
      exact j_ri C dX10_octet_22 rfl (Option.some.inj h).symm rfl
theorem dX10_on_0 : decode cX10_on 0 = .ok (.aload_n 0, 1) := by decide +kernel
theorem dX10_on_1 : decode cX10_on 1 = .ok (.getfield 13, 3) := by decide +kernel
theorem dX10_on_4 : decode cX10_on 4 = .ok (.istore_n 1, 1) := by decide +kernel
theorem dX10_on_5 : decode cX10_on 5 = .ok (.aload_n 0, 1) := by decide +kernel
theorem dX10_on_6 : decode cX10_on 6 = .ok (.iconst 0, 1) := by decide +kernel
theorem dX10_on_7 : decode cX10_on 7 = .ok (.putfield 13, 3) := by decide +kernel
theorem dX10_on_10 : decode cX10_on 10 = .ok (.aload_n 0, 1) := by decide +kernel
theorem dX10_on_11 : decode cX10_on 11 = .ok (.iload_n 1, 1) := by decide +kernel
theorem dX10_on_12 : decode cX10_on 12 = .ok (.invokevirtual 410, 3) := by decide +kernel
theorem dX10_on_15 : decode cX10_on 15 = .ok (.ifCond .ne 11, 3) := by decide +kernel
theorem dX10_on_18 : decode cX10_on 18 = .ok (.aload_n 0, 1) := by decide +kernel
theorem dX10_on_19 : decode cX10_on 19 = .ok (.iconst 5, 1) := by decide +kernel
theorem dX10_on_20 : decode cX10_on 20 = .ok (.invokevirtual 101, 3) := by decide +kernel
theorem dX10_on_23 : decode cX10_on 23 = .ok (.pop, 1) := by decide +kernel
theorem dX10_on_24 : decode cX10_on 24 = .ok (.iconst 0, 1) := by decide +kernel
theorem dX10_on_25 : decode cX10_on 25 = .ok (.ireturn, 1) := by decide +kernel
theorem dX10_on_26 : decode cX10_on 26 = .ok (.aload_n 0, 1) := by decide +kernel
theorem dX10_on_27 : decode cX10_on 27 = .ok (.getfield 37, 3) := by decide +kernel
theorem dX10_on_30 : decode cX10_on 30 = .ok (.aload_n 0, 1) := by decide +kernel
theorem dX10_on_31 : decode cX10_on 31 = .ok (.iconst 0, 1) := by decide +kernel
theorem dX10_on_32 : decode cX10_on 32 = .ok (.invokevirtual 413, 3) := by decide +kernel
theorem dX10_on_35 : decode cX10_on 35 = .ok (.putfield 167, 3) := by decide +kernel
theorem dX10_on_38 : decode cX10_on 38 = .ok (.iconst 0, 1) := by decide +kernel
theorem dX10_on_39 : decode cX10_on 39 = .ok (.istore_n 2, 1) := by decide +kernel
theorem dX10_on_40 : decode cX10_on 40 = .ok (.iload_n 2, 1) := by decide +kernel
theorem dX10_on_41 : decode cX10_on 41 = .ok (.aload_n 0, 1) := by decide +kernel
theorem dX10_on_42 : decode cX10_on 42 = .ok (.getfield 27, 3) := by decide +kernel
theorem dX10_on_45 : decode cX10_on 45 = .ok (.invokevirtual 375, 3) := by decide +kernel
theorem dX10_on_48 : decode cX10_on 48 = .ok (.if_icmp .ge 27, 3) := by decide +kernel
theorem dX10_on_51 : decode cX10_on 51 = .ok (.aload_n 0, 1) := by decide +kernel
theorem dX10_on_52 : decode cX10_on 52 = .ok (.getfield 37, 3) := by decide +kernel
theorem dX10_on_55 : decode cX10_on 55 = .ok (.getfield 297, 3) := by decide +kernel
theorem dX10_on_58 : decode cX10_on 58 = .ok (.iload_n 2, 1) := by decide +kernel
theorem dX10_on_59 : decode cX10_on 59 = .ok (.aload_n 0, 1) := by decide +kernel
theorem dX10_on_60 : decode cX10_on 60 = .ok (.getfield 9, 3) := by decide +kernel
theorem dX10_on_63 : decode cX10_on 63 = .ok (.iload_n 2, 1) := by decide +kernel
theorem dX10_on_64 : decode cX10_on 64 = .ok (.invokestatic 416, 3) := by decide +kernel
theorem dX10_on_67 : decode cX10_on 67 = .ok (.iaload, 1) := by decide +kernel
theorem dX10_on_68 : decode cX10_on 68 = .ok (.iastore, 1) := by decide +kernel
theorem dX10_on_69 : decode cX10_on 69 = .ok (.iinc 2 1, 3) := by decide +kernel
theorem dX10_on_72 : decode cX10_on 72 = .ok (.goto (-32), 3) := by decide +kernel
theorem dX10_on_75 : decode cX10_on 75 = .ok (.iconst 0, 1) := by decide +kernel
theorem dX10_on_76 : decode cX10_on 76 = .ok (.istore_n 2, 1) := by decide +kernel
theorem dX10_on_77 : decode cX10_on 77 = .ok (.iload_n 2, 1) := by decide +kernel
theorem dX10_on_78 : decode cX10_on 78 = .ok (.aload_n 0, 1) := by decide +kernel
theorem dX10_on_79 : decode cX10_on 79 = .ok (.getfield 27, 3) := by decide +kernel
theorem dX10_on_82 : decode cX10_on 82 = .ok (.getfield 155, 3) := by decide +kernel
theorem dX10_on_85 : decode cX10_on 85 = .ok (.if_icmp .ge 36, 3) := by decide +kernel
theorem dX10_on_88 : decode cX10_on 88 = .ok (.aload_n 0, 1) := by decide +kernel
theorem dX10_on_89 : decode cX10_on 89 = .ok (.getfield 37, 3) := by decide +kernel
theorem dX10_on_92 : decode cX10_on 92 = .ok (.getfield 214, 3) := by decide +kernel
theorem dX10_on_95 : decode cX10_on 95 = .ok (.aload_n 0, 1) := by decide +kernel
theorem dX10_on_96 : decode cX10_on 96 = .ok (.getfield 27, 3) := by decide +kernel
theorem dX10_on_99 : decode cX10_on 99 = .ok (.getfield 291, 3) := by decide +kernel
theorem dX10_on_102 : decode cX10_on 102 = .ok (.iload_n 2, 1) := by decide +kernel
theorem dX10_on_103 : decode cX10_on 103 = .ok (.iaload, 1) := by decide +kernel
theorem dX10_on_104 : decode cX10_on 104 = .ok (.aload_n 0, 1) := by decide +kernel
theorem dX10_on_105 : decode cX10_on 105 = .ok (.getfield 9, 3) := by decide +kernel
theorem dX10_on_108 : decode cX10_on 108 = .ok (.aload_n 0, 1) := by decide +kernel
theorem dX10_on_109 : decode cX10_on 109 = .ok (.iload_n 2, 1) := by decide +kernel
theorem dX10_on_110 : decode cX10_on 110 = .ok (.invokevirtual 419, 3) := by decide +kernel
theorem dX10_on_113 : decode cX10_on 113 = .ok (.iaload, 1) := by decide +kernel
theorem dX10_on_114 : decode cX10_on 114 = .ok (.iastore, 1) := by decide +kernel
theorem dX10_on_115 : decode cX10_on 115 = .ok (.iinc 2 1, 3) := by decide +kernel
theorem dX10_on_118 : decode cX10_on 118 = .ok (.goto (-41), 3) := by decide +kernel
theorem dX10_on_121 : decode cX10_on 121 = .ok (.iconst 0, 1) := by decide +kernel
theorem dX10_on_122 : decode cX10_on 122 = .ok (.istore_n 2, 1) := by decide +kernel
theorem dX10_on_123 : decode cX10_on 123 = .ok (.iload_n 2, 1) := by decide +kernel
theorem dX10_on_124 : decode cX10_on 124 = .ok (.aload_n 0, 1) := by decide +kernel
theorem dX10_on_125 : decode cX10_on 125 = .ok (.getfield 27, 3) := by decide +kernel
theorem dX10_on_128 : decode cX10_on 128 = .ok (.getfield 149, 3) := by decide +kernel
theorem dX10_on_131 : decode cX10_on 131 = .ok (.if_icmp .ge 27, 3) := by decide +kernel
theorem dX10_on_134 : decode cX10_on 134 = .ok (.aload_n 0, 1) := by decide +kernel
theorem dX10_on_135 : decode cX10_on 135 = .ok (.getfield 37, 3) := by decide +kernel
theorem dX10_on_138 : decode cX10_on 138 = .ok (.getfield 236, 3) := by decide +kernel
theorem dX10_on_141 : decode cX10_on 141 = .ok (.iload_n 2, 1) := by decide +kernel
theorem dX10_on_142 : decode cX10_on 142 = .ok (.aload_n 0, 1) := by decide +kernel
theorem dX10_on_143 : decode cX10_on 143 = .ok (.aload_n 0, 1) := by decide +kernel
theorem dX10_on_144 : decode cX10_on 144 = .ok (.iload_n 2, 1) := by decide +kernel
theorem dX10_on_145 : decode cX10_on 145 = .ok (.invokevirtual 422, 3) := by decide +kernel
theorem dX10_on_148 : decode cX10_on 148 = .ok (.invokevirtual 413, 3) := by decide +kernel
theorem dX10_on_151 : decode cX10_on 151 = .ok (.iastore, 1) := by decide +kernel
theorem dX10_on_152 : decode cX10_on 152 = .ok (.iinc 2 1, 3) := by decide +kernel
theorem dX10_on_155 : decode cX10_on 155 = .ok (.goto (-32), 3) := by decide +kernel
theorem dX10_on_158 : decode cX10_on 158 = .ok (.aload_n 0, 1) := by decide +kernel
theorem dX10_on_159 : decode cX10_on 159 = .ok (.getfield 47, 3) := by decide +kernel
theorem dX10_on_162 : decode cX10_on 162 = .ok (.invokevirtual 120, 3) := by decide +kernel
theorem dX10_on_165 : decode cX10_on 165 = .ok (.aload_n 0, 1) := by decide +kernel
theorem dX10_on_166 : decode cX10_on 166 = .ok (.invokevirtual 124, 3) := by decide +kernel
theorem dX10_on_169 : decode cX10_on 169 = .ok (.iconst 1, 1) := by decide +kernel
theorem dX10_on_170 : decode cX10_on 170 = .ok (.ireturn, 1) := by decide +kernel
set_option maxRecDepth 100000 in
set_option maxHeartbeats 4000000 in
theorem X10_on_L40_bok {g : Gm} {w : Wd} (C : Cx g w RX10 cX10_on 3 (some .boolean)) {lv : Nat} (hlv : 4 < lv) {N : Nat} {k75 : Nat → Mem → Option (Int × Mem)} {r40 : Nat → Int → Mem → Option (Int × Mem)} {l0 : Nat} {l2 : Int} {m : Mem} {out : (Int × Mem)} (hk75 : ∀ l0 m, k75 l0 m = some out → Jd g w 3 (rmL lv 0 0) (Qm g w (some (vI out.1)) out.2) 75 [some (vR l0), none, none] [] 312 m 0 0) (hr40 : ∀ l0 l2 m, r40 l0 l2 m = some out → Jd g w 3 (rmL lv 0 0) (Qm g w (some (vI out.1)) out.2) 40 [some (vR l0), none, some (vI l2)] [] 312 m 0 0) (h : X10_on_L40_b N k75 r40 l0 l2 m = some out) : Jd g w 3 (rmL lv 0 0) (Qm g w (some (vI out.1)) out.2) 40 [some (vR l0), none, some (vI l2)] [] 312 m 0 0 := by
  unfold X10_on_L40_b at h
  refine j_iload_n C dX10_on_40 rfl ?_
  refine j_aload_n C dX10_on_41 rfl ?_
  refine j_getR C dX10_on_42 CF10 (by decide) fl_X10_27 rfl rfl h (fun t7 h => ?_)
  obtain ⟨p8, ep8, h⟩ := bind_some h
  have qp8 := X5_cells_ct ep8
  refine j_cVI C dX10_on_45 vl_X10_375 CF5 rfl qp8.1 qp8.2 (by omega) rfl rfl (Nat.le_of_ble_eq_true rfl) ?_
  refine j_icmp_ge C 75 dX10_on_48 rfl h (fun c15 h => ?_) (fun c15 h => ?_)
  · refine j_mask [true, false, false] (ls' := [some (vR _), none, none]) rfl ?_
    exact hk75 _ _ h
  · refine j_aload_n C dX10_on_51 rfl ?_
    refine j_getR C dX10_on_52 CF10 (by decide) fl_X10_37 rfl rfl h (fun t9 h => ?_)
    refine j_getR C dX10_on_55 CF1 (by decide) fl_X10_297 rfl rfl h (fun t10 h => ?_)
    refine j_iload_n C dX10_on_58 rfl ?_
    refine j_aload_n C dX10_on_59 rfl ?_
    refine j_getR C dX10_on_60 CF10 (by decide) fl_X10_9 rfl rfl h (fun t11 h => ?_)
    refine j_iload_n C dX10_on_63 rfl ?_
    obtain ⟨p12, ep12, h⟩ := bind_some h
    have qp12 := X10_wallAt_ct ep12
    refine j_cSI C dX10_on_64 sl_X10_416 qp12 (by omega) rfl rfl (Nat.le_of_ble_eq_true rfl) ?_
    refine j_iald C dX10_on_67 rfl h (fun t13 h => ?_)
    refine j_iast C dX10_on_68 rfl h (fun m14 h => ?_)
    refine j_iinc (ls' := [some (vR _), none, some (vI _)]) C dX10_on_69 rfl (by decide) rfl ?_
    refine j_goto C 40 dX10_on_72 rfl ?_
    exact hr40 _ _ _ h
set_option maxRecDepth 100000 in
set_option maxHeartbeats 4000000 in
theorem X10_on_L40_ok {g : Gm} {w : Wd} (C : Cx g w RX10 cX10_on 3 (some .boolean)) {lv : Nat} (hlv : 4 < lv) {N : Nat} {k75 : Nat → Mem → Option (Int × Mem)} {out : (Int × Mem)} (hk75 : ∀ l0 m, k75 l0 m = some out → Jd g w 3 (rmL lv 0 0) (Qm g w (some (vI out.1)) out.2) 75 [some (vR l0), none, none] [] 312 m 0 0) (f : Nat) : ∀ {l0 : Nat} {l2 : Int} {m : Mem}, X10_on_L40 N k75 f l0 l2 m = some out → Jd g w 3 (rmL lv 0 0) (Qm g w (some (vI out.1)) out.2) 40 [some (vR l0), none, some (vI l2)] [] 312 m 0 0 := by
  induction f with
  | zero => intro l0 l2 m h; exact none_ne (α := (Int × Mem)) h
  | succ f ih => intro l0 l2 m h; exact X10_on_L40_bok C hlv hk75 (fun l0 l2 m h => ih h) h
set_option maxRecDepth 100000 in
set_option maxHeartbeats 4000000 in
theorem X10_on_L77_bok {g : Gm} {w : Wd} (C : Cx g w RX10 cX10_on 3 (some .boolean)) {lv : Nat} (hlv : 4 < lv) {N : Nat} {k121 : Nat → Mem → Option (Int × Mem)} {r77 : Nat → Int → Mem → Option (Int × Mem)} {l0 : Nat} {l2 : Int} {m : Mem} {out : (Int × Mem)} (hk121 : ∀ l0 m, k121 l0 m = some out → Jd g w 3 (rmL lv 0 0) (Qm g w (some (vI out.1)) out.2) 121 [some (vR l0), none, none] [] 312 m 0 0) (hr77 : ∀ l0 l2 m, r77 l0 l2 m = some out → Jd g w 3 (rmL lv 0 0) (Qm g w (some (vI out.1)) out.2) 77 [some (vR l0), none, some (vI l2)] [] 312 m 0 0) (h : X10_on_L77_b N k121 r77 l0 l2 m = some out) : Jd g w 3 (rmL lv 0 0) (Qm g w (some (vI out.1)) out.2) 77 [some (vR l0), none, some (vI l2)] [] 312 m 0 0 := by
  unfold X10_on_L77_b at h
  refine j_iload_n C dX10_on_77 rfl ?_
  refine j_aload_n C dX10_on_78 rfl ?_
  refine j_getR C dX10_on_79 CF10 (by decide) fl_X10_27 rfl rfl h (fun t18 h => ?_)
  refine j_getI C dX10_on_82 CF5 (by decide) fl_X10_155 rfl rfl h (fun t19 h => ?_)
  refine j_icmp_ge C 121 dX10_on_85 rfl h (fun c29 h => ?_) (fun c29 h => ?_)
  · refine j_mask [true, false, false] (ls' := [some (vR _), none, none]) rfl ?_
    exact hk121 _ _ h
  · refine j_aload_n C dX10_on_88 rfl ?_
    refine j_getR C dX10_on_89 CF10 (by decide) fl_X10_37 rfl rfl h (fun t20 h => ?_)
    refine j_getR C dX10_on_92 CF1 (by decide) fl_X10_214 rfl rfl h (fun t21 h => ?_)
    refine j_aload_n C dX10_on_95 rfl ?_
    refine j_getR C dX10_on_96 CF10 (by decide) fl_X10_27 rfl rfl h (fun t22 h => ?_)
    refine j_getR C dX10_on_99 CF5 (by decide) fl_X10_291 rfl rfl h (fun t23 h => ?_)
    refine j_iload_n C dX10_on_102 rfl ?_
    refine j_iald C dX10_on_103 rfl h (fun t24 h => ?_)
    refine j_aload_n C dX10_on_104 rfl ?_
    refine j_getR C dX10_on_105 CF10 (by decide) fl_X10_9 rfl rfl h (fun t25 h => ?_)
    refine j_aload_n C dX10_on_108 rfl ?_
    refine j_iload_n C dX10_on_109 rfl ?_
    obtain ⟨p26, ep26, h⟩ := bind_some h
    have qp26 := X10_clothAt_ct ep26
    refine j_cVI C dX10_on_110 vl_X10_419 CF10 rfl qp26.1 qp26.2 (by omega) rfl rfl (Nat.le_of_ble_eq_true rfl) ?_
    refine j_iald C dX10_on_113 rfl h (fun t27 h => ?_)
    refine j_iast C dX10_on_114 rfl h (fun m28 h => ?_)
    refine j_iinc (ls' := [some (vR _), none, some (vI _)]) C dX10_on_115 rfl (by decide) rfl ?_
    refine j_goto C 77 dX10_on_118 rfl ?_
    exact hr77 _ _ _ h
set_option maxRecDepth 100000 in
set_option maxHeartbeats 4000000 in
theorem X10_on_L77_ok {g : Gm} {w : Wd} (C : Cx g w RX10 cX10_on 3 (some .boolean)) {lv : Nat} (hlv : 4 < lv) {N : Nat} {k121 : Nat → Mem → Option (Int × Mem)} {out : (Int × Mem)} (hk121 : ∀ l0 m, k121 l0 m = some out → Jd g w 3 (rmL lv 0 0) (Qm g w (some (vI out.1)) out.2) 121 [some (vR l0), none, none] [] 312 m 0 0) (f : Nat) : ∀ {l0 : Nat} {l2 : Int} {m : Mem}, X10_on_L77 N k121 f l0 l2 m = some out → Jd g w 3 (rmL lv 0 0) (Qm g w (some (vI out.1)) out.2) 77 [some (vR l0), none, some (vI l2)] [] 312 m 0 0 := by
  induction f with
  | zero => intro l0 l2 m h; exact none_ne (α := (Int × Mem)) h
  | succ f ih => intro l0 l2 m h; exact X10_on_L77_bok C hlv hk121 (fun l0 l2 m h => ih h) h
set_option maxRecDepth 100000 in
set_option maxHeartbeats 4000000 in
theorem X10_on_L123_bok {g : Gm} {w : Wd} (C : Cx g w RX10 cX10_on 3 (some .boolean)) {lv : Nat} (hlv : 4 < lv) {N : Nat} {k158 : Nat → Mem → Option (Int × Mem)} {r123 : Nat → Int → Mem → Option (Int × Mem)} {l0 : Nat} {l2 : Int} {m : Mem} {out : (Int × Mem)} (hk158 : ∀ l0 m, k158 l0 m = some out → Jd g w 3 (rmL lv 0 0) (Qm g w (some (vI out.1)) out.2) 158 [some (vR l0), none, none] [] 312 m 0 0) (hr123 : ∀ l0 l2 m, r123 l0 l2 m = some out → Jd g w 3 (rmL lv 0 0) (Qm g w (some (vI out.1)) out.2) 123 [some (vR l0), none, some (vI l2)] [] 312 m 0 0) (h : X10_on_L123_b N k158 r123 l0 l2 m = some out) : Jd g w 3 (rmL lv 0 0) (Qm g w (some (vI out.1)) out.2) 123 [some (vR l0), none, some (vI l2)] [] 312 m 0 0 := by
  unfold X10_on_L123_b at h
  refine j_iload_n C dX10_on_123 rfl ?_
  refine j_aload_n C dX10_on_124 rfl ?_
  refine j_getR C dX10_on_125 CF10 (by decide) fl_X10_27 rfl rfl h (fun t32 h => ?_)
  refine j_getI C dX10_on_128 CF5 (by decide) fl_X10_149 rfl rfl h (fun t33 h => ?_)
  refine j_icmp_ge C 158 dX10_on_131 rfl h (fun c39 h => ?_) (fun c39 h => ?_)
  · refine j_mask [true, false, false] (ls' := [some (vR _), none, none]) rfl ?_
    exact hk158 _ _ h
  · refine j_aload_n C dX10_on_134 rfl ?_
    refine j_getR C dX10_on_135 CF10 (by decide) fl_X10_37 rfl rfl h (fun t34 h => ?_)
    refine j_getR C dX10_on_138 CF1 (by decide) fl_X10_236 rfl rfl h (fun t35 h => ?_)
    refine j_iload_n C dX10_on_141 rfl ?_
    refine j_aload_n C dX10_on_142 rfl ?_
    refine j_aload_n C dX10_on_143 rfl ?_
    refine j_iload_n C dX10_on_144 rfl ?_
    obtain ⟨p36, ep36, h⟩ := bind_some h
    have qp36 := X10_dropsAt_ct ep36
    refine j_cVI C dX10_on_145 vl_X10_422 CF10 rfl qp36.1 qp36.2 (by omega) rfl rfl (Nat.le_of_ble_eq_true rfl) ?_
    obtain ⟨p37, ep37, h⟩ := bind_some h
    have qp37 := X10_twoAt_ct ep37
    refine j_cVI C dX10_on_148 vl_X10_413 CF10 rfl qp37.1 qp37.2 (by omega) rfl rfl (Nat.le_of_ble_eq_true rfl) ?_
    refine j_iast C dX10_on_151 rfl h (fun m38 h => ?_)
    refine j_iinc (ls' := [some (vR _), none, some (vI _)]) C dX10_on_152 rfl (by decide) rfl ?_
    refine j_goto C 123 dX10_on_155 rfl ?_
    exact hr123 _ _ _ h
set_option maxRecDepth 100000 in
set_option maxHeartbeats 4000000 in
theorem X10_on_L123_ok {g : Gm} {w : Wd} (C : Cx g w RX10 cX10_on 3 (some .boolean)) {lv : Nat} (hlv : 4 < lv) {N : Nat} {k158 : Nat → Mem → Option (Int × Mem)} {out : (Int × Mem)} (hk158 : ∀ l0 m, k158 l0 m = some out → Jd g w 3 (rmL lv 0 0) (Qm g w (some (vI out.1)) out.2) 158 [some (vR l0), none, none] [] 312 m 0 0) (f : Nat) : ∀ {l0 : Nat} {l2 : Int} {m : Mem}, X10_on_L123 N k158 f l0 l2 m = some out → Jd g w 3 (rmL lv 0 0) (Qm g w (some (vI out.1)) out.2) 123 [some (vR l0), none, some (vI l2)] [] 312 m 0 0 := by
  induction f with
  | zero => intro l0 l2 m h; exact none_ne (α := (Int × Mem)) h
  | succ f ih => intro l0 l2 m h; exact X10_on_L123_bok C hlv hk158 (fun l0 l2 m h => ih h) h
set_option maxRecDepth 100000 in
set_option maxHeartbeats 4000000 in
theorem X10_on_ct {N : Nat} {l0 : Nat} {m : Mem} {out : (Int × Mem)} (h : X10_on N l0 m = some out) : shK l0 = 10 + 10 ∧ CT yX10_on cX10_on 3 (some .boolean) 5 0 0 [vR l0] 312 m (some (vI out.1)) 312 out.2 := by
  unfold X10_on at h
  obtain ⟨hK, h⟩ := ite_some h
  have hlv : 4 < 5 := by decide
  refine ⟨hK, CT.of (by decide +kernel) rfl (Nat.le_of_ble_eq_true rfl) (ls := [some (vR l0), none, none]) rfl fun g w C _ => ?_⟩
  refine j_aload_n C dX10_on_0 rfl ?_
  refine j_getI C dX10_on_1 CF10 (by decide) fl_X10_13 rfl rfl h (fun t1 h => ?_)
  refine j_istore_n (ls' := [some (vR _), some (vI _), none]) C dX10_on_4 (by decide) rfl ?_
  refine j_aload_n C dX10_on_5 rfl ?_
  refine j_iconst C dX10_on_6 rfl ?_
  refine j_putI C dX10_on_7 CF10 (by decide) fl_X10_13 rfl rfl rfl rfl h (fun m2 h => ?_)
  refine j_aload_n C dX10_on_10 rfl ?_
  refine j_iload_n C dX10_on_11 rfl ?_
  obtain ⟨p3, ep3, h⟩ := bind_some h
  have qp3 := X10_isImage_ct ep3
  refine j_cVI C dX10_on_12 vl_X10_410 CF10 rfl qp3.1 qp3.2 (by omega) rfl rfl (Nat.le_of_ble_eq_true rfl) ?_
  refine j_if_ne C 26 dX10_on_15 rfl h (fun c48 h => ?_) (fun c48 h => ?_)
  · refine j_aload_n C dX10_on_26 rfl ?_
    refine j_getR C dX10_on_27 CF10 (by decide) fl_X10_37 rfl rfl h (fun t4 h => ?_)
    refine j_aload_n C dX10_on_30 rfl ?_
    refine j_iconst C dX10_on_31 rfl ?_
    obtain ⟨p5, ep5, h⟩ := bind_some h
    have qp5 := X10_twoAt_ct ep5
    refine j_cVI C dX10_on_32 vl_X10_413 CF10 rfl qp5.1 qp5.2 (by omega) rfl rfl (Nat.le_of_ble_eq_true rfl) ?_
    refine j_putI C dX10_on_35 CF1 (by decide) fl_X10_167 rfl rfl rfl rfl h (fun m6 h => ?_)
    refine j_iconst C dX10_on_38 rfl ?_
    refine j_istore_n (ls' := [some (vR _), some (vI _), some (vI _)]) C dX10_on_39 (by decide) rfl ?_
    refine j_mask [true, false, true] (ls' := [some (vR _), none, some (vI _)]) rfl ?_
    refine X10_on_L40_ok C hlv (fun z16 m17 h => ?_) N h
    refine j_iconst C dX10_on_75 rfl ?_
    refine j_istore_n (ls' := [some (vR _), none, some (vI _)]) C dX10_on_76 (by decide) rfl ?_
    refine X10_on_L77_ok C hlv (fun z30 m31 h => ?_) N h
    refine j_iconst C dX10_on_121 rfl ?_
    refine j_istore_n (ls' := [some (vR _), none, some (vI _)]) C dX10_on_122 (by decide) rfl ?_
    refine X10_on_L123_ok C hlv (fun z40 m41 h => ?_) N h
    refine j_aload_n C dX10_on_158 rfl ?_
    refine j_getR C dX10_on_159 CF10 (by decide) fl_X10_47 rfl rfl h (fun t42 h => ?_)
    obtain ⟨p43, ep43, h⟩ := bind_some h
    have qp43 := X4_forget_ct ep43
    refine j_cVV C dX10_on_162 vl_X10_120 CF4 rfl qp43.1 qp43.2 (by omega) rfl rfl (Nat.le_of_ble_eq_true rfl) ?_
    refine j_aload_n C dX10_on_165 rfl ?_
    obtain ⟨p44, ep44, h⟩ := bind_some h
    have qp44 := X10_changed_ct ep44
    refine j_cVV C dX10_on_166 vl_X10_124 CF10 rfl qp44.1 qp44.2 (by omega) rfl rfl (Nat.le_of_ble_eq_true rfl) ?_
    refine j_iconst C dX10_on_169 rfl ?_
    obtain ⟨r45, er45, h⟩ := bind_some h
    have e := Option.some.inj h
    subst e
    exact j_rz C dX10_on_170 rfl (retZ_some er45) rfl
  · refine j_aload_n C dX10_on_18 rfl ?_
    refine j_iconst C dX10_on_19 rfl ?_
    obtain ⟨p46, ep46, h⟩ := bind_some h
    have qp46 := X10_refuse_ct ep46
    refine j_cVI C dX10_on_20 vl_X10_101 CF10 rfl qp46.1 qp46.2 (by omega) rfl rfl (Nat.le_of_ble_eq_true rfl) ?_
    refine j_pop C dX10_on_23 rfl ?_
    refine j_iconst C dX10_on_24 rfl ?_
    obtain ⟨r47, er47, h⟩ := bind_some h
    have e := Option.some.inj h
    subst e
    exact j_rz C dX10_on_25 rfl (retZ_some er47) rfl
theorem dX9_gotFrom_0 : decode cX9_gotFrom 0 = .ok (.iload_n 1, 1) := by decide +kernel
theorem dX9_gotFrom_1 : decode cX9_gotFrom 1 = .ok (.ifCond .lt 11, 3) := by decide +kernel
theorem dX9_gotFrom_4 : decode cX9_gotFrom 4 = .ok (.iload_n 1, 1) := by decide +kernel
theorem dX9_gotFrom_5 : decode cX9_gotFrom 5 = .ok (.aload_n 0, 1) := by decide +kernel
theorem dX9_gotFrom_6 : decode cX9_gotFrom 6 = .ok (.getfield 18, 3) := by decide +kernel
theorem dX9_gotFrom_9 : decode cX9_gotFrom 9 = .ok (.if_icmp .lt 5, 3) := by decide +kernel
theorem dX9_gotFrom_12 : decode cX9_gotFrom 12 = .ok (.iconst 0, 1) := by decide +kernel
theorem dX9_gotFrom_13 : decode cX9_gotFrom 13 = .ok (.ireturn, 1) := by decide +kernel
theorem dX9_gotFrom_14 : decode cX9_gotFrom 14 = .ok (.iconst 0, 1) := by decide +kernel
theorem dX9_gotFrom_15 : decode cX9_gotFrom 15 = .ok (.iload_n 2, 1) := by decide +kernel
theorem dX9_gotFrom_16 : decode cX9_gotFrom 16 = .ok (.aload_n 0, 1) := by decide +kernel
theorem dX9_gotFrom_17 : decode cX9_gotFrom 17 = .ok (.getfield 22, 3) := by decide +kernel
theorem dX9_gotFrom_20 : decode cX9_gotFrom 20 = .ok (.imul, 1) := by decide +kernel
theorem dX9_gotFrom_21 : decode cX9_gotFrom 21 = .ok (.aload_n 0, 1) := by decide +kernel
theorem dX9_gotFrom_22 : decode cX9_gotFrom 22 = .ok (.getfield 15, 3) := by decide +kernel
theorem dX9_gotFrom_25 : decode cX9_gotFrom 25 = .ok (.iload_n 1, 1) := by decide +kernel
theorem dX9_gotFrom_26 : decode cX9_gotFrom 26 = .ok (.iaload, 1) := by decide +kernel
theorem dX9_gotFrom_27 : decode cX9_gotFrom 27 = .ok (.isub, 1) := by decide +kernel
theorem dX9_gotFrom_28 : decode cX9_gotFrom 28 = .ok (.invokestatic 51, 3) := by decide +kernel
theorem dX9_gotFrom_31 : decode cX9_gotFrom 31 = .ok (.istore_n 3, 1) := by decide +kernel
theorem dX9_gotFrom_32 : decode cX9_gotFrom 32 = .ok (.iconst 0, 1) := by decide +kernel
theorem dX9_gotFrom_33 : decode cX9_gotFrom 33 = .ok (.aload_n 0, 1) := by decide +kernel
theorem dX9_gotFrom_34 : decode cX9_gotFrom 34 = .ok (.getfield 9, 3) := by decide +kernel
theorem dX9_gotFrom_37 : decode cX9_gotFrom 37 = .ok (.iload_n 1, 1) := by decide +kernel
theorem dX9_gotFrom_38 : decode cX9_gotFrom 38 = .ok (.iaload, 1) := by decide +kernel
theorem dX9_gotFrom_39 : decode cX9_gotFrom 39 = .ok (.iload_n 3, 1) := by decide +kernel
theorem dX9_gotFrom_40 : decode cX9_gotFrom 40 = .ok (.isub, 1) := by decide +kernel
theorem dX9_gotFrom_41 : decode cX9_gotFrom 41 = .ok (.invokestatic 51, 3) := by decide +kernel
theorem dX9_gotFrom_44 : decode cX9_gotFrom 44 = .ok (.ireturn, 1) := by decide +kernel
set_option maxRecDepth 100000 in
set_option maxHeartbeats 4000000 in
theorem X9_gotFrom_ct {l0 : Nat} {l1 : Int} {l2 : Int} {m : Mem} {out : Int} (h : X9_gotFrom l0 l1 l2 m = some out) : shK l0 = 9 + 10 ∧ CT yX9_gotFrom cX9_gotFrom 4 (some .int) 1 0 0 [vR l0, vI l1, vI l2] 312 m (some (vI out)) 312 m := by
  unfold X9_gotFrom at h
  obtain ⟨hK, h⟩ := ite_some h
  have hlv : 0 < 1 := by decide
  refine ⟨hK, CT.of (by decide +kernel) rfl (Nat.le_of_ble_eq_true rfl) (ls := [some (vR l0), some (vI l1), some (vI l2), none]) rfl fun g w C _ => ?_⟩
  refine j_iload_n C dX9_gotFrom_0 rfl ?_
  refine j_if_lt C 12 dX9_gotFrom_1 rfl h (fun c8 h => ?_) (fun c8 h => ?_)
  · refine j_iconst C dX9_gotFrom_12 rfl ?_
    exact j_ri C dX9_gotFrom_13 rfl (Option.some.inj h).symm rfl
  · refine j_iload_n C dX9_gotFrom_4 rfl ?_
    refine j_aload_n C dX9_gotFrom_5 rfl ?_
    refine j_getI C dX9_gotFrom_6 CF9 (by decide) fl_X9_18 rfl rfl h (fun t1 h => ?_)
    refine j_icmp_lt C 14 dX9_gotFrom_9 rfl h (fun c7 h => ?_) (fun c7 h => ?_)
    · refine j_iconst C dX9_gotFrom_14 rfl ?_
      refine j_iload_n C dX9_gotFrom_15 rfl ?_
      refine j_aload_n C dX9_gotFrom_16 rfl ?_
      refine j_getI C dX9_gotFrom_17 CF9 (by decide) fl_X9_22 rfl rfl h (fun t2 h => ?_)
      refine j_imul C dX9_gotFrom_20 ?_
      refine j_aload_n C dX9_gotFrom_21 rfl ?_
      refine j_getR C dX9_gotFrom_22 CF9 (by decide) fl_X9_15 rfl rfl h (fun t3 h => ?_)
      refine j_iload_n C dX9_gotFrom_25 rfl ?_
      refine j_iald C dX9_gotFrom_26 rfl h (fun t4 h => ?_)
      refine j_isub C dX9_gotFrom_27 ?_
      refine j_mmax C dX9_gotFrom_28 ml_X9_51 rfl (by omega) (Nat.le_refl 0) (Nat.le_refl 0) (Nat.le_of_ble_eq_true rfl) ?_
      refine j_istore_n (ls' := [some (vR _), some (vI _), some (vI _), some (vI _)]) C dX9_gotFrom_31 (by decide) rfl ?_
      refine j_iconst C dX9_gotFrom_32 rfl ?_
      refine j_aload_n C dX9_gotFrom_33 rfl ?_
      refine j_getR C dX9_gotFrom_34 CF9 (by decide) fl_X9_9 rfl rfl h (fun t5 h => ?_)
      refine j_iload_n C dX9_gotFrom_37 rfl ?_
      refine j_iald C dX9_gotFrom_38 rfl h (fun t6 h => ?_)
      refine j_iload_n C dX9_gotFrom_39 rfl ?_
      refine j_isub C dX9_gotFrom_40 ?_
      refine j_mmax C dX9_gotFrom_41 ml_X9_51 rfl (by omega) (Nat.le_refl 0) (Nat.le_refl 0) (Nat.le_of_ble_eq_true rfl) ?_
      exact j_ri C dX9_gotFrom_44 rfl (Option.some.inj h).symm rfl
    · refine j_iconst C dX9_gotFrom_12 rfl ?_
      exact j_ri C dX9_gotFrom_13 rfl (Option.some.inj h).symm rfl
theorem dX9_gotBy_0 : decode cX9_gotBy 0 = .ok (.aload_n 0, 1) := by decide +kernel
theorem dX9_gotBy_1 : decode cX9_gotBy 1 = .ok (.iload_n 1, 1) := by decide +kernel
theorem dX9_gotBy_2 : decode cX9_gotBy 2 = .ok (.iload_n 2, 1) := by decide +kernel
theorem dX9_gotBy_3 : decode cX9_gotBy 3 = .ok (.invokestatic 60, 3) := by decide +kernel
theorem dX9_gotBy_6 : decode cX9_gotBy 6 = .ok (.invokevirtual 65, 3) := by decide +kernel
theorem dX9_gotBy_9 : decode cX9_gotBy 9 = .ok (.aload_n 0, 1) := by decide +kernel
theorem dX9_gotBy_10 : decode cX9_gotBy 10 = .ok (.getfield 25, 3) := by decide +kernel
theorem dX9_gotBy_13 : decode cX9_gotBy 13 = .ok (.iload_n 2, 1) := by decide +kernel
theorem dX9_gotBy_14 : decode cX9_gotBy 14 = .ok (.iconst 1, 1) := by decide +kernel
theorem dX9_gotBy_15 : decode cX9_gotBy 15 = .ok (.iload_n 1, 1) := by decide +kernel
theorem dX9_gotBy_16 : decode cX9_gotBy 16 = .ok (.ishl, 1) := by decide +kernel
theorem dX9_gotBy_17 : decode cX9_gotBy 17 = .ok (.ior, 1) := by decide +kernel
theorem dX9_gotBy_18 : decode cX9_gotBy 18 = .ok (.iaload, 1) := by decide +kernel
theorem dX9_gotBy_19 : decode cX9_gotBy 19 = .ok (.iadd, 1) := by decide +kernel
theorem dX9_gotBy_20 : decode cX9_gotBy 20 = .ok (.ireturn, 1) := by decide +kernel
set_option maxRecDepth 100000 in
set_option maxHeartbeats 4000000 in
theorem X9_gotBy_ct {l0 : Nat} {l1 : Int} {l2 : Int} {m : Mem} {out : Int} (h : X9_gotBy l0 l1 l2 m = some out) : shK l0 = 9 + 10 ∧ CT yX9_gotBy cX9_gotBy 3 (some .int) 2 0 0 [vR l0, vI l1, vI l2] 312 m (some (vI out)) 312 m := by
  unfold X9_gotBy at h
  obtain ⟨hK, h⟩ := ite_some h
  have hlv : 1 < 2 := by decide
  refine ⟨hK, CT.of (by decide +kernel) rfl (Nat.le_of_ble_eq_true rfl) (ls := [some (vR l0), some (vI l1), some (vI l2)]) rfl fun g w C _ => ?_⟩
  refine j_aload_n C dX9_gotBy_0 rfl ?_
  refine j_iload_n C dX9_gotBy_1 rfl ?_
  refine j_iload_n C dX9_gotBy_2 rfl ?_
  obtain ⟨p1, ep1, h⟩ := bind_some h
  have qp1 := J6_bitCount_0f7a4_ct ep1
  refine j_cSI C dX9_gotBy_3 sl_X9_60 qp1 (by omega) rfl rfl (Nat.le_of_ble_eq_true rfl) ?_
  obtain ⟨p2, ep2, h⟩ := bind_some h
  have qp2 := X9_gotFrom_ct ep2
  refine j_cVI C dX9_gotBy_6 vl_X9_65 CF9 rfl qp2.1 qp2.2 (by omega) rfl rfl (Nat.le_of_ble_eq_true rfl) ?_
  refine j_aload_n C dX9_gotBy_9 rfl ?_
  refine j_getR C dX9_gotBy_10 CF9 (by decide) fl_X9_25 rfl rfl h (fun t3 h => ?_)
  refine j_iload_n C dX9_gotBy_13 rfl ?_
  refine j_iconst C dX9_gotBy_14 rfl ?_
  refine j_iload_n C dX9_gotBy_15 rfl ?_
  refine j_ishl C dX9_gotBy_16 ?_
  refine j_ior C dX9_gotBy_17 ?_
  refine j_iald C dX9_gotBy_18 rfl h (fun t4 h => ?_)
  refine j_iadd C dX9_gotBy_19 ?_
  exact j_ri C dX9_gotBy_20 rfl (Option.some.inj h).symm rfl
theorem dX9_findOrder_0 : decode cX9_findOrder 0 = .ok (.aload_n 0, 1) := by decide +kernel
theorem dX9_findOrder_1 : decode cX9_findOrder 1 = .ok (.getfield 18, 3) := by decide +kernel
theorem dX9_findOrder_4 : decode cX9_findOrder 4 = .ok (.bipush 6, 2) := by decide +kernel
theorem dX9_findOrder_6 : decode cX9_findOrder 6 = .ok (.if_icmp .le 4, 3) := by decide +kernel
theorem dX9_findOrder_9 : decode cX9_findOrder 9 = .ok (.return_, 1) := by decide +kernel
theorem dX9_findOrder_10 : decode cX9_findOrder 10 = .ok (.iconst 1, 1) := by decide +kernel
theorem dX9_findOrder_11 : decode cX9_findOrder 11 = .ok (.aload_n 0, 1) := by decide +kernel
theorem dX9_findOrder_12 : decode cX9_findOrder 12 = .ok (.getfield 18, 3) := by decide +kernel
theorem dX9_findOrder_15 : decode cX9_findOrder 15 = .ok (.ishl, 1) := by decide +kernel
theorem dX9_findOrder_16 : decode cX9_findOrder 16 = .ok (.iconst 1, 1) := by decide +kernel
theorem dX9_findOrder_17 : decode cX9_findOrder 17 = .ok (.isub, 1) := by decide +kernel
theorem dX9_findOrder_18 : decode cX9_findOrder 18 = .ok (.istore_n 1, 1) := by decide +kernel
theorem dX9_findOrder_19 : decode cX9_findOrder 19 = .ok (.aload_n 0, 1) := by decide +kernel
theorem dX9_findOrder_20 : decode cX9_findOrder 20 = .ok (.getfield 25, 3) := by decide +kernel
theorem dX9_findOrder_23 : decode cX9_findOrder 23 = .ok (.iload_n 1, 1) := by decide +kernel
theorem dX9_findOrder_24 : decode cX9_findOrder 24 = .ok (.iconst 0, 1) := by decide +kernel
theorem dX9_findOrder_25 : decode cX9_findOrder 25 = .ok (.iastore, 1) := by decide +kernel
theorem dX9_findOrder_26 : decode cX9_findOrder 26 = .ok (.iload_n 1, 1) := by decide +kernel
theorem dX9_findOrder_27 : decode cX9_findOrder 27 = .ok (.iconst 1, 1) := by decide +kernel
theorem dX9_findOrder_28 : decode cX9_findOrder 28 = .ok (.isub, 1) := by decide +kernel
theorem dX9_findOrder_29 : decode cX9_findOrder 29 = .ok (.istore_n 2, 1) := by decide +kernel
theorem dX9_findOrder_30 : decode cX9_findOrder 30 = .ok (.iload_n 2, 1) := by decide +kernel
theorem dX9_findOrder_31 : decode cX9_findOrder 31 = .ok (.ifCond .lt 61, 3) := by decide +kernel
theorem dX9_findOrder_34 : decode cX9_findOrder 34 = .ok (.aload_n 0, 1) := by decide +kernel
theorem dX9_findOrder_35 : decode cX9_findOrder 35 = .ok (.getfield 25, 3) := by decide +kernel
theorem dX9_findOrder_38 : decode cX9_findOrder 38 = .ok (.iload_n 2, 1) := by decide +kernel
theorem dX9_findOrder_39 : decode cX9_findOrder 39 = .ok (.iconst 0, 1) := by decide +kernel
theorem dX9_findOrder_40 : decode cX9_findOrder 40 = .ok (.iastore, 1) := by decide +kernel
theorem dX9_findOrder_41 : decode cX9_findOrder 41 = .ok (.iconst 0, 1) := by decide +kernel
theorem dX9_findOrder_42 : decode cX9_findOrder 42 = .ok (.istore_n 3, 1) := by decide +kernel
theorem dX9_findOrder_43 : decode cX9_findOrder 43 = .ok (.iload_n 3, 1) := by decide +kernel
theorem dX9_findOrder_44 : decode cX9_findOrder 44 = .ok (.aload_n 0, 1) := by decide +kernel
theorem dX9_findOrder_45 : decode cX9_findOrder 45 = .ok (.getfield 18, 3) := by decide +kernel
theorem dX9_findOrder_48 : decode cX9_findOrder 48 = .ok (.if_icmp .ge 38, 3) := by decide +kernel
theorem dX9_findOrder_51 : decode cX9_findOrder 51 = .ok (.iload_n 2, 1) := by decide +kernel
theorem dX9_findOrder_52 : decode cX9_findOrder 52 = .ok (.iload_n 3, 1) := by decide +kernel
theorem dX9_findOrder_53 : decode cX9_findOrder 53 = .ok (.ishr, 1) := by decide +kernel
theorem dX9_findOrder_54 : decode cX9_findOrder 54 = .ok (.iconst 1, 1) := by decide +kernel
theorem dX9_findOrder_55 : decode cX9_findOrder 55 = .ok (.iand, 1) := by decide +kernel
theorem dX9_findOrder_56 : decode cX9_findOrder 56 = .ok (.ifCond .ne 24, 3) := by decide +kernel
theorem dX9_findOrder_59 : decode cX9_findOrder 59 = .ok (.aload_n 0, 1) := by decide +kernel
theorem dX9_findOrder_60 : decode cX9_findOrder 60 = .ok (.getfield 25, 3) := by decide +kernel
theorem dX9_findOrder_63 : decode cX9_findOrder 63 = .ok (.iload_n 2, 1) := by decide +kernel
theorem dX9_findOrder_64 : decode cX9_findOrder 64 = .ok (.aload_n 0, 1) := by decide +kernel
theorem dX9_findOrder_65 : decode cX9_findOrder 65 = .ok (.getfield 25, 3) := by decide +kernel
theorem dX9_findOrder_68 : decode cX9_findOrder 68 = .ok (.iload_n 2, 1) := by decide +kernel
theorem dX9_findOrder_69 : decode cX9_findOrder 69 = .ok (.iaload, 1) := by decide +kernel
theorem dX9_findOrder_70 : decode cX9_findOrder 70 = .ok (.aload_n 0, 1) := by decide +kernel
theorem dX9_findOrder_71 : decode cX9_findOrder 71 = .ok (.iload_n 3, 1) := by decide +kernel
theorem dX9_findOrder_72 : decode cX9_findOrder 72 = .ok (.iload_n 2, 1) := by decide +kernel
theorem dX9_findOrder_73 : decode cX9_findOrder 73 = .ok (.invokevirtual 57, 3) := by decide +kernel
theorem dX9_findOrder_76 : decode cX9_findOrder 76 = .ok (.invokestatic 51, 3) := by decide +kernel
theorem dX9_findOrder_79 : decode cX9_findOrder 79 = .ok (.iastore, 1) := by decide +kernel
theorem dX9_findOrder_80 : decode cX9_findOrder 80 = .ok (.iinc 3 1, 3) := by decide +kernel
theorem dX9_findOrder_83 : decode cX9_findOrder 83 = .ok (.goto (-40), 3) := by decide +kernel
theorem dX9_findOrder_86 : decode cX9_findOrder 86 = .ok (.iinc 2 (-1), 3) := by decide +kernel
theorem dX9_findOrder_89 : decode cX9_findOrder 89 = .ok (.goto (-59), 3) := by decide +kernel
theorem dX9_findOrder_92 : decode cX9_findOrder 92 = .ok (.return_, 1) := by decide +kernel
set_option maxRecDepth 100000 in
set_option maxHeartbeats 4000000 in
theorem X9_findOrder_J80_ok {g : Gm} {w : Wd} (C : Cx g w RX9 cX9_findOrder 4 none) {lv : Nat} (hlv : 2 < lv) {N : Nat} {r43 : Nat → Int → Int → Mem → Option Mem } {l0 : Nat} {l2 : Int} {l3 : Int} {m : Mem} {out : Mem} (hr43 : ∀ l0 l2 l3 m, r43 l0 l2 l3 m = some out → Jd g w 4 (rmL lv 0 0) (Qm g w none out) 43 [some (vR l0), none, some (vI l2), some (vI l3)] [] 312 m 0 0) (h : X9_findOrder_J80 N r43 l0 l2 l3 m = some out) : Jd g w 4 (rmL lv 0 0) (Qm g w none out) 80 [some (vR l0), none, some (vI l2), some (vI l3)] [] 312 m 0 0 := by
  unfold X9_findOrder_J80 at h
  refine j_iinc (ls' := [some (vR _), none, some (vI _), some (vI _)]) C dX9_findOrder_80 rfl (by decide) rfl ?_
  refine j_goto C 43 dX9_findOrder_83 rfl ?_
  exact hr43 _ _ _ _ h
set_option maxRecDepth 100000 in
set_option maxHeartbeats 4000000 in
theorem X9_findOrder_L43_bok {g : Gm} {w : Wd} (C : Cx g w RX9 cX9_findOrder 4 none) {lv : Nat} (hlv : 2 < lv) {N : Nat} {k86 : Nat → Int → Mem → Option Mem} {r43 : Nat → Int → Int → Mem → Option Mem} {l0 : Nat} {l2 : Int} {l3 : Int} {m : Mem} {out : Mem} (hk86 : ∀ l0 l2 m, k86 l0 l2 m = some out → Jd g w 4 (rmL lv 0 0) (Qm g w none out) 86 [some (vR l0), none, some (vI l2), none] [] 312 m 0 0) (hr43 : ∀ l0 l2 l3 m, r43 l0 l2 l3 m = some out → Jd g w 4 (rmL lv 0 0) (Qm g w none out) 43 [some (vR l0), none, some (vI l2), some (vI l3)] [] 312 m 0 0) (h : X9_findOrder_L43_b N k86 r43 l0 l2 l3 m = some out) : Jd g w 4 (rmL lv 0 0) (Qm g w none out) 43 [some (vR l0), none, some (vI l2), some (vI l3)] [] 312 m 0 0 := by
  unfold X9_findOrder_L43_b at h
  refine j_iload_n C dX9_findOrder_43 rfl ?_
  refine j_aload_n C dX9_findOrder_44 rfl ?_
  refine j_getI C dX9_findOrder_45 CF9 (by decide) fl_X9_18 rfl rfl h (fun t7 h => ?_)
  refine j_icmp_ge C 86 dX9_findOrder_48 rfl h (fun c14 h => ?_) (fun c14 h => ?_)
  · refine j_mask [true, false, true, false] (ls' := [some (vR _), none, some (vI _), none]) rfl ?_
    exact hk86 _ _ _ h
  · refine j_iload_n C dX9_findOrder_51 rfl ?_
    refine j_iload_n C dX9_findOrder_52 rfl ?_
    refine j_ishr C dX9_findOrder_53 ?_
    refine j_iconst C dX9_findOrder_54 rfl ?_
    refine j_iand C dX9_findOrder_55 ?_
    refine j_if_ne C 80 dX9_findOrder_56 rfl h (fun c13 h => ?_) (fun c13 h => ?_)
    · exact X9_findOrder_J80_ok C hlv hr43 h
    · refine j_aload_n C dX9_findOrder_59 rfl ?_
      refine j_getR C dX9_findOrder_60 CF9 (by decide) fl_X9_25 rfl rfl h (fun t8 h => ?_)
      refine j_iload_n C dX9_findOrder_63 rfl ?_
      refine j_aload_n C dX9_findOrder_64 rfl ?_
      refine j_getR C dX9_findOrder_65 CF9 (by decide) fl_X9_25 rfl rfl h (fun t9 h => ?_)
      refine j_iload_n C dX9_findOrder_68 rfl ?_
      refine j_iald C dX9_findOrder_69 rfl h (fun t10 h => ?_)
      refine j_aload_n C dX9_findOrder_70 rfl ?_
      refine j_iload_n C dX9_findOrder_71 rfl ?_
      refine j_iload_n C dX9_findOrder_72 rfl ?_
      obtain ⟨p11, ep11, h⟩ := bind_some h
      have qp11 := X9_gotBy_ct ep11
      refine j_cVI C dX9_findOrder_73 vl_X9_57 CF9 rfl qp11.1 qp11.2 (by omega) rfl rfl (Nat.le_of_ble_eq_true rfl) ?_
      refine j_mmax C dX9_findOrder_76 ml_X9_51 rfl (by omega) (Nat.le_refl 0) (Nat.le_refl 0) (Nat.le_of_ble_eq_true rfl) ?_
      refine j_iast C dX9_findOrder_79 rfl h (fun m12 h => ?_)
      exact X9_findOrder_J80_ok C hlv hr43 h
set_option maxRecDepth 100000 in
set_option maxHeartbeats 4000000 in
theorem X9_findOrder_L43_ok {g : Gm} {w : Wd} (C : Cx g w RX9 cX9_findOrder 4 none) {lv : Nat} (hlv : 2 < lv) {N : Nat} {k86 : Nat → Int → Mem → Option Mem} {out : Mem} (hk86 : ∀ l0 l2 m, k86 l0 l2 m = some out → Jd g w 4 (rmL lv 0 0) (Qm g w none out) 86 [some (vR l0), none, some (vI l2), none] [] 312 m 0 0) (f : Nat) : ∀ {l0 : Nat} {l2 : Int} {l3 : Int} {m : Mem}, X9_findOrder_L43 N k86 f l0 l2 l3 m = some out → Jd g w 4 (rmL lv 0 0) (Qm g w none out) 43 [some (vR l0), none, some (vI l2), some (vI l3)] [] 312 m 0 0 := by
  induction f with
  | zero => intro l0 l2 l3 m h; exact none_ne (α := Mem) h
  | succ f ih => intro l0 l2 l3 m h; exact X9_findOrder_L43_bok C hlv hk86 (fun l0 l2 l3 m h => ih h) h
set_option maxRecDepth 100000 in
set_option maxHeartbeats 4000000 in
theorem X9_findOrder_L30_bok {g : Gm} {w : Wd} (C : Cx g w RX9 cX9_findOrder 4 none) {lv : Nat} (hlv : 2 < lv) {N : Nat} {r30 : Nat → Int → Mem → Option Mem} {l0 : Nat} {l2 : Int} {m : Mem} {out : Mem} (hr30 : ∀ l0 l2 m, r30 l0 l2 m = some out → Jd g w 4 (rmL lv 0 0) (Qm g w none out) 30 [some (vR l0), none, some (vI l2), none] [] 312 m 0 0) (h : X9_findOrder_L30_b N r30 l0 l2 m = some out) : Jd g w 4 (rmL lv 0 0) (Qm g w none out) 30 [some (vR l0), none, some (vI l2), none] [] 312 m 0 0 := by
  unfold X9_findOrder_L30_b at h
  refine j_iload_n C dX9_findOrder_30 rfl ?_
  refine j_if_lt C 92 dX9_findOrder_31 rfl h (fun c18 h => ?_) (fun c18 h => ?_)
  · have e := Option.some.inj h
    subst e
    exact j_rv C dX9_findOrder_92 rfl rfl
  · refine j_aload_n C dX9_findOrder_34 rfl ?_
    refine j_getR C dX9_findOrder_35 CF9 (by decide) fl_X9_25 rfl rfl h (fun t5 h => ?_)
    refine j_iload_n C dX9_findOrder_38 rfl ?_
    refine j_iconst C dX9_findOrder_39 rfl ?_
    refine j_iast C dX9_findOrder_40 rfl h (fun m6 h => ?_)
    refine j_iconst C dX9_findOrder_41 rfl ?_
    refine j_istore_n (ls' := [some (vR _), none, some (vI _), some (vI _)]) C dX9_findOrder_42 (by decide) rfl ?_
    refine X9_findOrder_L43_ok C hlv (fun z15 z16 m17 h => ?_) N h
    refine j_iinc (ls' := [some (vR _), none, some (vI _), none]) C dX9_findOrder_86 rfl (by decide) rfl ?_
    refine j_goto C 30 dX9_findOrder_89 rfl ?_
    exact hr30 _ _ _ h
set_option maxRecDepth 100000 in
set_option maxHeartbeats 4000000 in
theorem X9_findOrder_L30_ok {g : Gm} {w : Wd} (C : Cx g w RX9 cX9_findOrder 4 none) {lv : Nat} (hlv : 2 < lv) {N : Nat} {out : Mem} (f : Nat) : ∀ {l0 : Nat} {l2 : Int} {m : Mem}, X9_findOrder_L30 N f l0 l2 m = some out → Jd g w 4 (rmL lv 0 0) (Qm g w none out) 30 [some (vR l0), none, some (vI l2), none] [] 312 m 0 0 := by
  induction f with
  | zero => intro l0 l2 m h; exact none_ne (α := Mem) h
  | succ f ih => intro l0 l2 m h; exact X9_findOrder_L30_bok C hlv (fun l0 l2 m h => ih h) h
set_option maxRecDepth 100000 in
set_option maxHeartbeats 4000000 in
theorem X9_findOrder_ct {N : Nat} {l0 : Nat} {m : Mem} {out : Mem} (h : X9_findOrder N l0 m = some out) : shK l0 = 9 + 10 ∧ CT yX9_findOrder cX9_findOrder 4 none 3 0 0 [vR l0] 312 m none 312 out := by
  unfold X9_findOrder at h
  obtain ⟨hK, h⟩ := ite_some h
  have hlv : 2 < 3 := by decide
  refine ⟨hK, CT.of (by decide +kernel) rfl (Nat.le_of_ble_eq_true rfl) (ls := [some (vR l0), none, none, none]) rfl fun g w C _ => ?_⟩
  refine j_aload_n C dX9_findOrder_0 rfl ?_
  refine j_getI C dX9_findOrder_1 CF9 (by decide) fl_X9_18 rfl rfl h (fun t1 h => ?_)
  refine j_bipush C dX9_findOrder_4 rfl ?_
  refine j_icmp_le C 10 dX9_findOrder_6 rfl h (fun c19 h => ?_) (fun c19 h => ?_)
  · refine j_iconst C dX9_findOrder_10 rfl ?_
    refine j_aload_n C dX9_findOrder_11 rfl ?_
    refine j_getI C dX9_findOrder_12 CF9 (by decide) fl_X9_18 rfl rfl h (fun t2 h => ?_)
    refine j_ishl C dX9_findOrder_15 ?_
    refine j_iconst C dX9_findOrder_16 rfl ?_
    refine j_isub C dX9_findOrder_17 ?_
    refine j_istore_n (ls' := [some (vR _), some (vI _), none, none]) C dX9_findOrder_18 (by decide) rfl ?_
    refine j_aload_n C dX9_findOrder_19 rfl ?_
    refine j_getR C dX9_findOrder_20 CF9 (by decide) fl_X9_25 rfl rfl h (fun t3 h => ?_)
    refine j_iload_n C dX9_findOrder_23 rfl ?_
    refine j_iconst C dX9_findOrder_24 rfl ?_
    refine j_iast C dX9_findOrder_25 rfl h (fun m4 h => ?_)
    refine j_iload_n C dX9_findOrder_26 rfl ?_
    refine j_iconst C dX9_findOrder_27 rfl ?_
    refine j_isub C dX9_findOrder_28 ?_
    refine j_istore_n (ls' := [some (vR _), some (vI _), some (vI _), none]) C dX9_findOrder_29 (by decide) rfl ?_
    refine j_mask [true, false, true, false] (ls' := [some (vR _), none, some (vI _), none]) rfl ?_
    exact X9_findOrder_L30_ok C hlv N h
  · have e := Option.some.inj h
    subst e
    exact j_rv C dX9_findOrder_9 rfl rfl
theorem dX9_mostGot_0 : decode cX9_mostGot 0 = .ok (.aload_n 0, 1) := by decide +kernel
theorem dX9_mostGot_1 : decode cX9_mostGot 1 = .ok (.getfield 25, 3) := by decide +kernel
theorem dX9_mostGot_4 : decode cX9_mostGot 4 = .ok (.iconst 0, 1) := by decide +kernel
theorem dX9_mostGot_5 : decode cX9_mostGot 5 = .ok (.iaload, 1) := by decide +kernel
theorem dX9_mostGot_6 : decode cX9_mostGot 6 = .ok (.ireturn, 1) := by decide +kernel
set_option maxRecDepth 100000 in
set_option maxHeartbeats 4000000 in
theorem X9_mostGot_ct {l0 : Nat} {m : Mem} {out : Int} (h : X9_mostGot l0 m = some out) : shK l0 = 9 + 10 ∧ CT yX9_mostGot cX9_mostGot 1 (some .int) 1 0 0 [vR l0] 312 m (some (vI out)) 312 m := by
  unfold X9_mostGot at h
  obtain ⟨hK, h⟩ := ite_some h
  have hlv : 0 < 1 := by decide
  refine ⟨hK, CT.of (by decide +kernel) rfl (Nat.le_of_ble_eq_true rfl) (ls := [some (vR l0)]) rfl fun g w C _ => ?_⟩
  refine j_aload_n C dX9_mostGot_0 rfl ?_
  refine j_getR C dX9_mostGot_1 CF9 (by decide) fl_X9_25 rfl rfl h (fun t1 h => ?_)
  refine j_iconst C dX9_mostGot_4 rfl ?_
  refine j_iald C dX9_mostGot_5 rfl h (fun t2 h => ?_)
  exact j_ri C dX9_mostGot_6 rfl (Option.some.inj h).symm rfl
theorem dX9_nextBy_0 : decode cX9_nextBy 0 = .ok (.iconst 0, 1) := by decide +kernel
theorem dX9_nextBy_1 : decode cX9_nextBy 1 = .ok (.istore_n 2, 1) := by decide +kernel
theorem dX9_nextBy_2 : decode cX9_nextBy 2 = .ok (.iload_n 2, 1) := by decide +kernel
theorem dX9_nextBy_3 : decode cX9_nextBy 3 = .ok (.aload_n 0, 1) := by decide +kernel
theorem dX9_nextBy_4 : decode cX9_nextBy 4 = .ok (.getfield 18, 3) := by decide +kernel
theorem dX9_nextBy_7 : decode cX9_nextBy 7 = .ok (.if_icmp .ge 34, 3) := by decide +kernel
theorem dX9_nextBy_10 : decode cX9_nextBy 10 = .ok (.iload_n 1, 1) := by decide +kernel
theorem dX9_nextBy_11 : decode cX9_nextBy 11 = .ok (.iload_n 2, 1) := by decide +kernel
theorem dX9_nextBy_12 : decode cX9_nextBy 12 = .ok (.ishr, 1) := by decide +kernel
theorem dX9_nextBy_13 : decode cX9_nextBy 13 = .ok (.iconst 1, 1) := by decide +kernel
theorem dX9_nextBy_14 : decode cX9_nextBy 14 = .ok (.iand, 1) := by decide +kernel
theorem dX9_nextBy_15 : decode cX9_nextBy 15 = .ok (.ifCond .ne 20, 3) := by decide +kernel
theorem dX9_nextBy_18 : decode cX9_nextBy 18 = .ok (.aload_n 0, 1) := by decide +kernel
theorem dX9_nextBy_19 : decode cX9_nextBy 19 = .ok (.iload_n 2, 1) := by decide +kernel
theorem dX9_nextBy_20 : decode cX9_nextBy 20 = .ok (.iload_n 1, 1) := by decide +kernel
theorem dX9_nextBy_21 : decode cX9_nextBy 21 = .ok (.invokevirtual 57, 3) := by decide +kernel
theorem dX9_nextBy_24 : decode cX9_nextBy 24 = .ok (.aload_n 0, 1) := by decide +kernel
theorem dX9_nextBy_25 : decode cX9_nextBy 25 = .ok (.getfield 25, 3) := by decide +kernel
theorem dX9_nextBy_28 : decode cX9_nextBy 28 = .ok (.iload_n 1, 1) := by decide +kernel
theorem dX9_nextBy_29 : decode cX9_nextBy 29 = .ok (.iaload, 1) := by decide +kernel
theorem dX9_nextBy_30 : decode cX9_nextBy 30 = .ok (.if_icmp .ne 5, 3) := by decide +kernel
theorem dX9_nextBy_33 : decode cX9_nextBy 33 = .ok (.iload_n 2, 1) := by decide +kernel
theorem dX9_nextBy_34 : decode cX9_nextBy 34 = .ok (.ireturn, 1) := by decide +kernel
theorem dX9_nextBy_35 : decode cX9_nextBy 35 = .ok (.iinc 2 1, 3) := by decide +kernel
theorem dX9_nextBy_38 : decode cX9_nextBy 38 = .ok (.goto (-36), 3) := by decide +kernel
theorem dX9_nextBy_41 : decode cX9_nextBy 41 = .ok (.iconst (-1), 1) := by decide +kernel
theorem dX9_nextBy_42 : decode cX9_nextBy 42 = .ok (.ireturn, 1) := by decide +kernel
set_option maxRecDepth 100000 in
set_option maxHeartbeats 4000000 in
theorem X9_nextBy_J35_ok {g : Gm} {w : Wd} (C : Cx g w RX9 cX9_nextBy 3 (some .int)) {lv : Nat} (hlv : 2 < lv) {N : Nat} {r2 : Nat → Int → Int → Option Int } {l0 : Nat} {l1 : Int} {l2 : Int} {m : Mem} {out : Int} (hr2 : ∀ l0 l1 l2, r2 l0 l1 l2 = some out → Jd g w 3 (rmL lv 0 0) (Qm g w (some (vI out)) m) 2 [some (vR l0), some (vI l1), some (vI l2)] [] 312 m 0 0) (h : X9_nextBy_J35 N r2 l0 l1 l2 m = some out) : Jd g w 3 (rmL lv 0 0) (Qm g w (some (vI out)) m) 35 [some (vR l0), some (vI l1), some (vI l2)] [] 312 m 0 0 := by
  unfold X9_nextBy_J35 at h
  refine j_iinc (ls' := [some (vR _), some (vI _), some (vI _)]) C dX9_nextBy_35 rfl (by decide) rfl ?_
  refine j_goto C 2 dX9_nextBy_38 rfl ?_
  exact hr2 _ _ _ h
set_option maxRecDepth 100000 in
set_option maxHeartbeats 4000000 in
theorem X9_nextBy_L2_bok {g : Gm} {w : Wd} (C : Cx g w RX9 cX9_nextBy 3 (some .int)) {lv : Nat} (hlv : 2 < lv) {N : Nat} {r2 : Nat → Int → Int → Option Int} {l0 : Nat} {l1 : Int} {l2 : Int} {m : Mem} {out : Int} (hr2 : ∀ l0 l1 l2, r2 l0 l1 l2 = some out → Jd g w 3 (rmL lv 0 0) (Qm g w (some (vI out)) m) 2 [some (vR l0), some (vI l1), some (vI l2)] [] 312 m 0 0) (h : X9_nextBy_L2_b N m r2 l0 l1 l2 = some out) : Jd g w 3 (rmL lv 0 0) (Qm g w (some (vI out)) m) 2 [some (vR l0), some (vI l1), some (vI l2)] [] 312 m 0 0 := by
  unfold X9_nextBy_L2_b at h
  refine j_iload_n C dX9_nextBy_2 rfl ?_
  refine j_aload_n C dX9_nextBy_3 rfl ?_
  refine j_getI C dX9_nextBy_4 CF9 (by decide) fl_X9_18 rfl rfl h (fun t1 h => ?_)
  refine j_icmp_ge C 41 dX9_nextBy_7 rfl h (fun c7 h => ?_) (fun c7 h => ?_)
  · refine j_iconst C dX9_nextBy_41 rfl ?_
    exact j_ri C dX9_nextBy_42 rfl (Option.some.inj h).symm rfl
  · refine j_iload_n C dX9_nextBy_10 rfl ?_
    refine j_iload_n C dX9_nextBy_11 rfl ?_
    refine j_ishr C dX9_nextBy_12 ?_
    refine j_iconst C dX9_nextBy_13 rfl ?_
    refine j_iand C dX9_nextBy_14 ?_
    refine j_if_ne C 35 dX9_nextBy_15 rfl h (fun c6 h => ?_) (fun c6 h => ?_)
    · exact X9_nextBy_J35_ok C hlv hr2 h
    · refine j_aload_n C dX9_nextBy_18 rfl ?_
      refine j_iload_n C dX9_nextBy_19 rfl ?_
      refine j_iload_n C dX9_nextBy_20 rfl ?_
      obtain ⟨p2, ep2, h⟩ := bind_some h
      have qp2 := X9_gotBy_ct ep2
      refine j_cVI C dX9_nextBy_21 vl_X9_57 CF9 rfl qp2.1 qp2.2 (by omega) rfl rfl (Nat.le_of_ble_eq_true rfl) ?_
      refine j_aload_n C dX9_nextBy_24 rfl ?_
      refine j_getR C dX9_nextBy_25 CF9 (by decide) fl_X9_25 rfl rfl h (fun t3 h => ?_)
      refine j_iload_n C dX9_nextBy_28 rfl ?_
      refine j_iald C dX9_nextBy_29 rfl h (fun t4 h => ?_)
      refine j_icmp_ne C 35 dX9_nextBy_30 rfl h (fun c5 h => ?_) (fun c5 h => ?_)
      · exact X9_nextBy_J35_ok C hlv hr2 h
      · refine j_iload_n C dX9_nextBy_33 rfl ?_
        exact j_ri C dX9_nextBy_34 rfl (Option.some.inj h).symm rfl
set_option maxRecDepth 100000 in
set_option maxHeartbeats 4000000 in
theorem X9_nextBy_L2_ok {g : Gm} {w : Wd} (C : Cx g w RX9 cX9_nextBy 3 (some .int)) {lv : Nat} (hlv : 2 < lv) {N : Nat} {m : Mem} {out : Int} (f : Nat) : ∀ {l0 : Nat} {l1 : Int} {l2 : Int}, X9_nextBy_L2 N m f l0 l1 l2 = some out → Jd g w 3 (rmL lv 0 0) (Qm g w (some (vI out)) m) 2 [some (vR l0), some (vI l1), some (vI l2)] [] 312 m 0 0 := by
  induction f with
  | zero => intro l0 l1 l2 h; exact none_ne (α := Int) h
  | succ f ih => intro l0 l1 l2 h; exact X9_nextBy_L2_bok C hlv (fun l0 l1 l2 h => ih h) h
set_option maxRecDepth 100000 in
set_option maxHeartbeats 4000000 in
theorem X9_nextBy_ct {N : Nat} {l0 : Nat} {l1 : Int} {m : Mem} {out : Int} (h : X9_nextBy N l0 l1 m = some out) : shK l0 = 9 + 10 ∧ CT yX9_nextBy cX9_nextBy 3 (some .int) 3 0 0 [vR l0, vI l1] 312 m (some (vI out)) 312 m := by
  unfold X9_nextBy at h
  obtain ⟨hK, h⟩ := ite_some h
  have hlv : 2 < 3 := by decide
  refine ⟨hK, CT.of (by decide +kernel) rfl (Nat.le_of_ble_eq_true rfl) (ls := [some (vR l0), some (vI l1), none]) rfl fun g w C _ => ?_⟩
  refine j_iconst C dX9_nextBy_0 rfl ?_
  refine j_istore_n (ls' := [some (vR _), some (vI _), some (vI _)]) C dX9_nextBy_1 (by decide) rfl ?_
  exact X9_nextBy_L2_ok C hlv N h
theorem dX9_wrungAt_0 : decode cX9_wrungAt 0 = .ok (.iconst 0, 1) := by decide +kernel
theorem dX9_wrungAt_1 : decode cX9_wrungAt 1 = .ok (.istore_n 2, 1) := by decide +kernel
theorem dX9_wrungAt_2 : decode cX9_wrungAt 2 = .ok (.iconst (-1), 1) := by decide +kernel
theorem dX9_wrungAt_3 : decode cX9_wrungAt 3 = .ok (.istore_n 3, 1) := by decide +kernel
theorem dX9_wrungAt_4 : decode cX9_wrungAt 4 = .ok (.iconst 0, 1) := by decide +kernel
theorem dX9_wrungAt_5 : decode cX9_wrungAt 5 = .ok (.istore 4, 2) := by decide +kernel
theorem dX9_wrungAt_7 : decode cX9_wrungAt 7 = .ok (.iload 4, 2) := by decide +kernel
theorem dX9_wrungAt_9 : decode cX9_wrungAt 9 = .ok (.iload_n 1, 1) := by decide +kernel
theorem dX9_wrungAt_10 : decode cX9_wrungAt 10 = .ok (.if_icmp .gt 39, 3) := by decide +kernel
theorem dX9_wrungAt_13 : decode cX9_wrungAt 13 = .ok (.iload 4, 2) := by decide +kernel
theorem dX9_wrungAt_15 : decode cX9_wrungAt 15 = .ok (.aload_n 0, 1) := by decide +kernel
theorem dX9_wrungAt_16 : decode cX9_wrungAt 16 = .ok (.getfield 18, 3) := by decide +kernel
theorem dX9_wrungAt_19 : decode cX9_wrungAt 19 = .ok (.if_icmp .ge 30, 3) := by decide +kernel
theorem dX9_wrungAt_22 : decode cX9_wrungAt 22 = .ok (.aload_n 0, 1) := by decide +kernel
theorem dX9_wrungAt_23 : decode cX9_wrungAt 23 = .ok (.iload_n 2, 1) := by decide +kernel
theorem dX9_wrungAt_24 : decode cX9_wrungAt 24 = .ok (.invokevirtual 68, 3) := by decide +kernel
theorem dX9_wrungAt_27 : decode cX9_wrungAt 27 = .ok (.istore_n 3, 1) := by decide +kernel
theorem dX9_wrungAt_28 : decode cX9_wrungAt 28 = .ok (.iload_n 2, 1) := by decide +kernel
theorem dX9_wrungAt_29 : decode cX9_wrungAt 29 = .ok (.iload_n 3, 1) := by decide +kernel
theorem dX9_wrungAt_30 : decode cX9_wrungAt 30 = .ok (.iconst (-1), 1) := by decide +kernel
theorem dX9_wrungAt_31 : decode cX9_wrungAt 31 = .ok (.if_icmp .ne 7, 3) := by decide +kernel
theorem dX9_wrungAt_34 : decode cX9_wrungAt 34 = .ok (.iconst 0, 1) := by decide +kernel
theorem dX9_wrungAt_35 : decode cX9_wrungAt 35 = .ok (.goto 6, 3) := by decide +kernel
theorem dX9_wrungAt_38 : decode cX9_wrungAt 38 = .ok (.iconst 1, 1) := by decide +kernel
theorem dX9_wrungAt_39 : decode cX9_wrungAt 39 = .ok (.iload_n 3, 1) := by decide +kernel
theorem dX9_wrungAt_40 : decode cX9_wrungAt 40 = .ok (.ishl, 1) := by decide +kernel
theorem dX9_wrungAt_41 : decode cX9_wrungAt 41 = .ok (.ior, 1) := by decide +kernel
theorem dX9_wrungAt_42 : decode cX9_wrungAt 42 = .ok (.istore_n 2, 1) := by decide +kernel
theorem dX9_wrungAt_43 : decode cX9_wrungAt 43 = .ok (.iinc 4 1, 3) := by decide +kernel
theorem dX9_wrungAt_46 : decode cX9_wrungAt 46 = .ok (.goto (-39), 3) := by decide +kernel
theorem dX9_wrungAt_49 : decode cX9_wrungAt 49 = .ok (.iload_n 3, 1) := by decide +kernel
theorem dX9_wrungAt_50 : decode cX9_wrungAt 50 = .ok (.ireturn, 1) := by decide +kernel
set_option maxRecDepth 100000 in
set_option maxHeartbeats 4000000 in
theorem X9_wrungAt_J41_ok {g : Gm} {w : Wd} (C : Cx g w RX9 cX9_wrungAt 5 (some .int)) {lv : Nat} (hlv : 3 < lv) {N : Nat} {r7 : Nat → Int → Int → Int → Int → Option Int } {l0 : Nat} {l1 : Int} {l3 : Int} {l4 : Int} {s0 : Int} {s1 : Int} {m : Mem} {out : Int} (hr7 : ∀ l0 l1 l2 l3 l4, r7 l0 l1 l2 l3 l4 = some out → Jd g w 5 (rmL lv 0 0) (Qm g w (some (vI out)) m) 7 [some (vR l0), some (vI l1), some (vI l2), some (vI l3), some (vI l4)] [] 312 m 0 0) (h : X9_wrungAt_J41 N r7 l0 l1 l3 l4 s0 s1 m = some out) : Jd g w 5 (rmL lv 0 0) (Qm g w (some (vI out)) m) 41 [some (vR l0), some (vI l1), none, some (vI l3), some (vI l4)] [vI s1, vI s0] 312 m 0 0 := by
  unfold X9_wrungAt_J41 at h
  refine j_ior C dX9_wrungAt_41 ?_
  refine j_istore_n (ls' := [some (vR _), some (vI _), some (vI _), some (vI _), some (vI _)]) C dX9_wrungAt_42 (by decide) rfl ?_
  refine j_iinc (ls' := [some (vR _), some (vI _), some (vI _), some (vI _), some (vI _)]) C dX9_wrungAt_43 rfl (by decide) rfl ?_
  refine j_goto C 7 dX9_wrungAt_46 rfl ?_
  exact hr7 _ _ _ _ _ h
set_option maxRecDepth 100000 in
set_option maxHeartbeats 4000000 in
theorem X9_wrungAt_L7_bok {g : Gm} {w : Wd} (C : Cx g w RX9 cX9_wrungAt 5 (some .int)) {lv : Nat} (hlv : 3 < lv) {N : Nat} {r7 : Nat → Int → Int → Int → Int → Option Int} {l0 : Nat} {l1 : Int} {l2 : Int} {l3 : Int} {l4 : Int} {m : Mem} {out : Int} (hr7 : ∀ l0 l1 l2 l3 l4, r7 l0 l1 l2 l3 l4 = some out → Jd g w 5 (rmL lv 0 0) (Qm g w (some (vI out)) m) 7 [some (vR l0), some (vI l1), some (vI l2), some (vI l3), some (vI l4)] [] 312 m 0 0) (h : X9_wrungAt_L7_b N m r7 l0 l1 l2 l3 l4 = some out) : Jd g w 5 (rmL lv 0 0) (Qm g w (some (vI out)) m) 7 [some (vR l0), some (vI l1), some (vI l2), some (vI l3), some (vI l4)] [] 312 m 0 0 := by
  unfold X9_wrungAt_L7_b at h
  refine j_iload C dX9_wrungAt_7 rfl ?_
  refine j_iload_n C dX9_wrungAt_9 rfl ?_
  refine j_icmp_gt C 49 dX9_wrungAt_10 rfl h (fun c5 h => ?_) (fun c5 h => ?_)
  · refine j_iload_n C dX9_wrungAt_49 rfl ?_
    exact j_ri C dX9_wrungAt_50 rfl (Option.some.inj h).symm rfl
  · refine j_iload C dX9_wrungAt_13 rfl ?_
    refine j_aload_n C dX9_wrungAt_15 rfl ?_
    refine j_getI C dX9_wrungAt_16 CF9 (by decide) fl_X9_18 rfl rfl h (fun t1 h => ?_)
    refine j_icmp_ge C 49 dX9_wrungAt_19 rfl h (fun c4 h => ?_) (fun c4 h => ?_)
    · refine j_iload_n C dX9_wrungAt_49 rfl ?_
      exact j_ri C dX9_wrungAt_50 rfl (Option.some.inj h).symm rfl
    · refine j_aload_n C dX9_wrungAt_22 rfl ?_
      refine j_iload_n C dX9_wrungAt_23 rfl ?_
      obtain ⟨p2, ep2, h⟩ := bind_some h
      have qp2 := X9_nextBy_ct ep2
      refine j_cVI C dX9_wrungAt_24 vl_X9_68 CF9 rfl qp2.1 qp2.2 (by omega) rfl rfl (Nat.le_of_ble_eq_true rfl) ?_
      refine j_istore_n (ls' := [some (vR _), some (vI _), some (vI _), some (vI _), some (vI _)]) C dX9_wrungAt_27 (by decide) rfl ?_
      refine j_iload_n C dX9_wrungAt_28 rfl ?_
      refine j_iload_n C dX9_wrungAt_29 rfl ?_
      refine j_iconst C dX9_wrungAt_30 rfl ?_
      refine j_icmp_ne C 38 dX9_wrungAt_31 rfl h (fun c3 h => ?_) (fun c3 h => ?_)
      · refine j_iconst C dX9_wrungAt_38 rfl ?_
        refine j_iload_n C dX9_wrungAt_39 rfl ?_
        refine j_ishl C dX9_wrungAt_40 ?_
        refine j_mask [true, true, false, true, true] (ls' := [some (vR _), some (vI _), none, some (vI _), some (vI _)]) rfl ?_
        exact X9_wrungAt_J41_ok C hlv hr7 h
      · refine j_iconst C dX9_wrungAt_34 rfl ?_
        refine j_goto C 41 dX9_wrungAt_35 rfl ?_
        refine j_mask [true, true, false, true, true] (ls' := [some (vR _), some (vI _), none, some (vI _), some (vI _)]) rfl ?_
        exact X9_wrungAt_J41_ok C hlv hr7 h
set_option maxRecDepth 100000 in
set_option maxHeartbeats 4000000 in
theorem X9_wrungAt_L7_ok {g : Gm} {w : Wd} (C : Cx g w RX9 cX9_wrungAt 5 (some .int)) {lv : Nat} (hlv : 3 < lv) {N : Nat} {m : Mem} {out : Int} (f : Nat) : ∀ {l0 : Nat} {l1 : Int} {l2 : Int} {l3 : Int} {l4 : Int}, X9_wrungAt_L7 N m f l0 l1 l2 l3 l4 = some out → Jd g w 5 (rmL lv 0 0) (Qm g w (some (vI out)) m) 7 [some (vR l0), some (vI l1), some (vI l2), some (vI l3), some (vI l4)] [] 312 m 0 0 := by
  induction f with
  | zero => intro l0 l1 l2 l3 l4 h; exact none_ne (α := Int) h
  | succ f ih => intro l0 l1 l2 l3 l4 h; exact X9_wrungAt_L7_bok C hlv (fun l0 l1 l2 l3 l4 h => ih h) h
set_option maxRecDepth 100000 in
set_option maxHeartbeats 4000000 in
theorem X9_wrungAt_ct {N : Nat} {l0 : Nat} {l1 : Int} {m : Mem} {out : Int} (h : X9_wrungAt N l0 l1 m = some out) : shK l0 = 9 + 10 ∧ CT yX9_wrungAt cX9_wrungAt 5 (some .int) 4 0 0 [vR l0, vI l1] 312 m (some (vI out)) 312 m := by
  unfold X9_wrungAt at h
  obtain ⟨hK, h⟩ := ite_some h
  have hlv : 3 < 4 := by decide
  refine ⟨hK, CT.of (by decide +kernel) rfl (Nat.le_of_ble_eq_true rfl) (ls := [some (vR l0), some (vI l1), none, none, none]) rfl fun g w C _ => ?_⟩
  refine j_iconst C dX9_wrungAt_0 rfl ?_
  refine j_istore_n (ls' := [some (vR _), some (vI _), some (vI _), none, none]) C dX9_wrungAt_1 (by decide) rfl ?_
  refine j_iconst C dX9_wrungAt_2 rfl ?_
  refine j_istore_n (ls' := [some (vR _), some (vI _), some (vI _), some (vI _), none]) C dX9_wrungAt_3 (by decide) rfl ?_
  refine j_iconst C dX9_wrungAt_4 rfl ?_
  refine j_istore (ls' := [some (vR _), some (vI _), some (vI _), some (vI _), some (vI _)]) C dX9_wrungAt_5 (by decide) rfl ?_
  exact X9_wrungAt_L7_ok C hlv N h
theorem dX10_order_0 : decode cX10_order 0 = .ok (.aload_n 0, 1) := by decide +kernel
theorem dX10_order_1 : decode cX10_order 1 = .ok (.getfield 27, 3) := by decide +kernel
theorem dX10_order_4 : decode cX10_order 4 = .ok (.getfield 155, 3) := by decide +kernel
theorem dX10_order_7 : decode cX10_order 7 = .ok (.bipush 6, 2) := by decide +kernel
theorem dX10_order_9 : decode cX10_order 9 = .ok (.if_icmp .gt 19, 3) := by decide +kernel
theorem dX10_order_12 : decode cX10_order 12 = .ok (.iload_n 1, 1) := by decide +kernel
theorem dX10_order_13 : decode cX10_order 13 = .ok (.iconst (-1), 1) := by decide +kernel
theorem dX10_order_14 : decode cX10_order 14 = .ok (.if_icmp .lt 14, 3) := by decide +kernel
theorem dX10_order_17 : decode cX10_order 17 = .ok (.iload_n 1, 1) := by decide +kernel
theorem dX10_order_18 : decode cX10_order 18 = .ok (.aload_n 0, 1) := by decide +kernel
theorem dX10_order_19 : decode cX10_order 19 = .ok (.getfield 27, 3) := by decide +kernel
theorem dX10_order_22 : decode cX10_order 22 = .ok (.getfield 155, 3) := by decide +kernel
theorem dX10_order_25 : decode cX10_order 25 = .ok (.if_icmp .lt 5, 3) := by decide +kernel
theorem dX10_order_28 : decode cX10_order 28 = .ok (.iconst (-1), 1) := by decide +kernel
theorem dX10_order_29 : decode cX10_order 29 = .ok (.ireturn, 1) := by decide +kernel
theorem dX10_order_30 : decode cX10_order 30 = .ok (.aload_n 0, 1) := by decide +kernel
theorem dX10_order_31 : decode cX10_order 31 = .ok (.getfield 74, 3) := by decide +kernel
theorem dX10_order_34 : decode cX10_order 34 = .ok (.aload_n 0, 1) := by decide +kernel
theorem dX10_order_35 : decode cX10_order 35 = .ok (.getfield 27, 3) := by decide +kernel
theorem dX10_order_38 : decode cX10_order 38 = .ok (.aload_n 0, 1) := by decide +kernel
theorem dX10_order_39 : decode cX10_order 39 = .ok (.getfield 37, 3) := by decide +kernel
theorem dX10_order_42 : decode cX10_order 42 = .ok (.aload_n 0, 1) := by decide +kernel
theorem dX10_order_43 : decode cX10_order 43 = .ok (.invokevirtual 226, 3) := by decide +kernel
theorem dX10_order_46 : decode cX10_order 46 = .ok (.invokevirtual 326, 3) := by decide +kernel
theorem dX10_order_49 : decode cX10_order 49 = .ok (.aload_n 0, 1) := by decide +kernel
theorem dX10_order_50 : decode cX10_order 50 = .ok (.getfield 74, 3) := by decide +kernel
theorem dX10_order_53 : decode cX10_order 53 = .ok (.invokevirtual 330, 3) := by decide +kernel
theorem dX10_order_56 : decode cX10_order 56 = .ok (.iload_n 1, 1) := by decide +kernel
theorem dX10_order_57 : decode cX10_order 57 = .ok (.iconst (-1), 1) := by decide +kernel
theorem dX10_order_58 : decode cX10_order 58 = .ok (.if_icmp .ne 13, 3) := by decide +kernel
theorem dX10_order_61 : decode cX10_order 61 = .ok (.aload_n 0, 1) := by decide +kernel
theorem dX10_order_62 : decode cX10_order 62 = .ok (.getfield 74, 3) := by decide +kernel
theorem dX10_order_65 : decode cX10_order 65 = .ok (.invokevirtual 333, 3) := by decide +kernel
theorem dX10_order_68 : decode cX10_order 68 = .ok (.goto 11, 3) := by decide +kernel
theorem dX10_order_71 : decode cX10_order 71 = .ok (.aload_n 0, 1) := by decide +kernel
theorem dX10_order_72 : decode cX10_order 72 = .ok (.getfield 74, 3) := by decide +kernel
theorem dX10_order_75 : decode cX10_order 75 = .ok (.iload_n 1, 1) := by decide +kernel
theorem dX10_order_76 : decode cX10_order 76 = .ok (.invokevirtual 336, 3) := by decide +kernel
theorem dX10_order_79 : decode cX10_order 79 = .ok (.ireturn, 1) := by decide +kernel
set_option maxRecDepth 100000 in
set_option maxHeartbeats 4000000 in
theorem X10_order_ct {N : Nat} {l0 : Nat} {l1 : Int} {m : Mem} {out : (Int × Mem)} (h : X10_order N l0 l1 m = some out) : shK l0 = 10 + 10 ∧ CT yX10_order cX10_order 2 (some .int) 7 0 0 [vR l0, vI l1] 312 m (some (vI out.1)) 312 out.2 := by
  unfold X10_order at h
  obtain ⟨hK, h⟩ := ite_some h
  have hlv : 6 < 7 := by decide
  refine ⟨hK, CT.of (by decide +kernel) rfl (Nat.le_of_ble_eq_true rfl) (ls := [some (vR l0), some (vI l1)]) rfl fun g w C _ => ?_⟩
  refine j_aload_n C dX10_order_0 rfl ?_
  refine j_getR C dX10_order_1 CF10 (by decide) fl_X10_27 rfl rfl h (fun t1 h => ?_)
  refine j_getI C dX10_order_4 CF5 (by decide) fl_X10_155 rfl rfl h (fun t2 h => ?_)
  refine j_bipush C dX10_order_7 rfl ?_
  refine j_icmp_gt C 28 dX10_order_9 rfl h (fun c19 h => ?_) (fun c19 h => ?_)
  · refine j_iconst C dX10_order_28 rfl ?_
    have e := Option.some.inj h
    subst e
    exact j_ri C dX10_order_29 rfl rfl rfl
  · refine j_iload_n C dX10_order_12 rfl ?_
    refine j_iconst C dX10_order_13 rfl ?_
    refine j_icmp_lt C 28 dX10_order_14 rfl h (fun c18 h => ?_) (fun c18 h => ?_)
    · refine j_iconst C dX10_order_28 rfl ?_
      have e := Option.some.inj h
      subst e
      exact j_ri C dX10_order_29 rfl rfl rfl
    · refine j_iload_n C dX10_order_17 rfl ?_
      refine j_aload_n C dX10_order_18 rfl ?_
      refine j_getR C dX10_order_19 CF10 (by decide) fl_X10_27 rfl rfl h (fun t3 h => ?_)
      refine j_getI C dX10_order_22 CF5 (by decide) fl_X10_155 rfl rfl h (fun t4 h => ?_)
      refine j_icmp_lt C 30 dX10_order_25 rfl h (fun c17 h => ?_) (fun c17 h => ?_)
      · refine j_aload_n C dX10_order_30 rfl ?_
        refine j_getR C dX10_order_31 CF10 (by decide) fl_X10_74 rfl rfl h (fun t5 h => ?_)
        refine j_aload_n C dX10_order_34 rfl ?_
        refine j_getR C dX10_order_35 CF10 (by decide) fl_X10_27 rfl rfl h (fun t6 h => ?_)
        refine j_aload_n C dX10_order_38 rfl ?_
        refine j_getR C dX10_order_39 CF10 (by decide) fl_X10_37 rfl rfl h (fun t7 h => ?_)
        refine j_aload_n C dX10_order_42 rfl ?_
        obtain ⟨p8, ep8, h⟩ := bind_some h
        have qp8 := X10_asTold_ct ep8
        refine j_cVR C dX10_order_43 vl_X10_226 CF10 rfl qp8.1 qp8.2 (by omega) rfl rfl (Nat.le_of_ble_eq_true rfl) ?_
        obtain ⟨p9, ep9, h⟩ := bind_some h
        have qp9 := X9_prepare_ct ep9
        refine j_cVV C dX10_order_46 vl_X10_326 CF9 rfl qp9.1 qp9.2 (by omega) rfl rfl (Nat.le_of_ble_eq_true rfl) ?_
        refine j_aload_n C dX10_order_49 rfl ?_
        refine j_getR C dX10_order_50 CF10 (by decide) fl_X10_74 rfl rfl h (fun t10 h => ?_)
        obtain ⟨p11, ep11, h⟩ := bind_some h
        have qp11 := X9_findOrder_ct ep11
        refine j_cVV C dX10_order_53 vl_X10_330 CF9 rfl qp11.1 qp11.2 (by omega) rfl rfl (Nat.le_of_ble_eq_true rfl) ?_
        refine j_iload_n C dX10_order_56 rfl ?_
        refine j_iconst C dX10_order_57 rfl ?_
        refine j_icmp_ne C 71 dX10_order_58 rfl h (fun c16 h => ?_) (fun c16 h => ?_)
        · refine j_aload_n C dX10_order_71 rfl ?_
          refine j_getR C dX10_order_72 CF10 (by decide) fl_X10_74 rfl rfl h (fun t12 h => ?_)
          refine j_iload_n C dX10_order_75 rfl ?_
          obtain ⟨p13, ep13, h⟩ := bind_some h
          have qp13 := X9_wrungAt_ct ep13
          refine j_cVI C dX10_order_76 vl_X10_336 CF9 rfl qp13.1 qp13.2 (by omega) rfl rfl (Nat.le_of_ble_eq_true rfl) ?_
          have e := Option.some.inj h
          subst e
          exact j_ri C dX10_order_79 rfl rfl rfl
        · refine j_aload_n C dX10_order_61 rfl ?_
          refine j_getR C dX10_order_62 CF10 (by decide) fl_X10_74 rfl rfl h (fun t14 h => ?_)
          obtain ⟨p15, ep15, h⟩ := bind_some h
          have qp15 := X9_mostGot_ct ep15
          refine j_cVI C dX10_order_65 vl_X10_333 CF9 rfl qp15.1 qp15.2 (by omega) rfl rfl (Nat.le_of_ble_eq_true rfl) ?_
          refine j_goto C 79 dX10_order_68 rfl ?_
          have e := Option.some.inj h
          subst e
          exact j_ri C dX10_order_79 rfl rfl rfl
      · refine j_iconst C dX10_order_28 rfl ?_
        have e := Option.some.inj h
        subst e
        exact j_ri C dX10_order_29 rfl rfl rfl
theorem dX10_seed_0 : decode cX10_seed 0 = .ok (.iload_n 1, 1) := by decide +kernel
theorem dX10_seed_1 : decode cX10_seed 1 = .ok (.ifCond .ge 11, 3) := by decide +kernel
theorem dX10_seed_4 : decode cX10_seed 4 = .ok (.aload_n 0, 1) := by decide +kernel
theorem dX10_seed_5 : decode cX10_seed 5 = .ok (.iconst 5, 1) := by decide +kernel
theorem dX10_seed_6 : decode cX10_seed 6 = .ok (.invokevirtual 101, 3) := by decide +kernel
theorem dX10_seed_9 : decode cX10_seed 9 = .ok (.pop, 1) := by decide +kernel
theorem dX10_seed_10 : decode cX10_seed 10 = .ok (.iconst 0, 1) := by decide +kernel
theorem dX10_seed_11 : decode cX10_seed 11 = .ok (.ireturn, 1) := by decide +kernel
theorem dX10_seed_12 : decode cX10_seed 12 = .ok (.aload_n 0, 1) := by decide +kernel
theorem dX10_seed_13 : decode cX10_seed 13 = .ok (.iload_n 1, 1) := by decide +kernel
theorem dX10_seed_14 : decode cX10_seed 14 = .ok (.putfield 51, 3) := by decide +kernel
theorem dX10_seed_17 : decode cX10_seed 17 = .ok (.iconst 1, 1) := by decide +kernel
theorem dX10_seed_18 : decode cX10_seed 18 = .ok (.ireturn, 1) := by decide +kernel
set_option maxRecDepth 100000 in
set_option maxHeartbeats 4000000 in
theorem X10_seed_ct {l0 : Nat} {l1 : Int} {m : Mem} {out : (Int × Mem)} (h : X10_seed l0 l1 m = some out) : shK l0 = 10 + 10 ∧ CT yX10_seed cX10_seed 2 (some .boolean) 2 0 0 [vR l0, vI l1] 312 m (some (vI out.1)) 312 out.2 := by
  unfold X10_seed at h
  obtain ⟨hK, h⟩ := ite_some h
  have hlv : 1 < 2 := by decide
  refine ⟨hK, CT.of (by decide +kernel) rfl (Nat.le_of_ble_eq_true rfl) (ls := [some (vR l0), some (vI l1)]) rfl fun g w C _ => ?_⟩
  refine j_iload_n C dX10_seed_0 rfl ?_
  refine j_if_ge C 12 dX10_seed_1 rfl h (fun c5 h => ?_) (fun c5 h => ?_)
  · refine j_aload_n C dX10_seed_12 rfl ?_
    refine j_iload_n C dX10_seed_13 rfl ?_
    refine j_putI C dX10_seed_14 CF10 (by decide) fl_X10_51 rfl rfl rfl rfl h (fun m1 h => ?_)
    refine j_iconst C dX10_seed_17 rfl ?_
    obtain ⟨r2, er2, h⟩ := bind_some h
    have e := Option.some.inj h
    subst e
    exact j_rz C dX10_seed_18 rfl (retZ_some er2) rfl
  · refine j_aload_n C dX10_seed_4 rfl ?_
    refine j_iconst C dX10_seed_5 rfl ?_
    obtain ⟨p3, ep3, h⟩ := bind_some h
    have qp3 := X10_refuse_ct ep3
    refine j_cVI C dX10_seed_6 vl_X10_101 CF10 rfl qp3.1 qp3.2 (by omega) rfl rfl (Nat.le_of_ble_eq_true rfl) ?_
    refine j_pop C dX10_seed_9 rfl ?_
    refine j_iconst C dX10_seed_10 rfl ?_
    obtain ⟨r4, er4, h⟩ := bind_some h
    have e := Option.some.inj h
    subst e
    exact j_rz C dX10_seed_11 rfl (retZ_some er4) rfl
theorem dX10_sky_0 : decode cX10_sky 0 = .ok (.iload_n 1, 1) := by decide +kernel
theorem dX10_sky_1 : decode cX10_sky 1 = .ok (.invokestatic 245, 3) := by decide +kernel
theorem dX10_sky_4 : decode cX10_sky 4 = .ok (.ifCond .eq 15, 3) := by decide +kernel
theorem dX10_sky_7 : decode cX10_sky 7 = .ok (.aload_n 0, 1) := by decide +kernel
theorem dX10_sky_8 : decode cX10_sky 8 = .ok (.getfield 27, 3) := by decide +kernel
theorem dX10_sky_11 : decode cX10_sky 11 = .ok (.getfield 248, 3) := by decide +kernel
theorem dX10_sky_14 : decode cX10_sky 14 = .ok (.iload_n 1, 1) := by decide +kernel
theorem dX10_sky_15 : decode cX10_sky 15 = .ok (.iaload, 1) := by decide +kernel
theorem dX10_sky_16 : decode cX10_sky 16 = .ok (.goto 4, 3) := by decide +kernel
theorem dX10_sky_19 : decode cX10_sky 19 = .ok (.iconst (-1), 1) := by decide +kernel
theorem dX10_sky_20 : decode cX10_sky 20 = .ok (.ireturn, 1) := by decide +kernel
set_option maxRecDepth 100000 in
set_option maxHeartbeats 4000000 in
theorem X10_sky_ct {l0 : Nat} {l1 : Int} {m : Mem} {out : Int} (h : X10_sky l0 l1 m = some out) : shK l0 = 10 + 10 ∧ CT yX10_sky cX10_sky 2 (some .int) 2 0 0 [vR l0, vI l1] 312 m (some (vI out)) 312 m := by
  unfold X10_sky at h
  obtain ⟨hK, h⟩ := ite_some h
  have hlv : 1 < 2 := by decide
  refine ⟨hK, CT.of (by decide +kernel) rfl (Nat.le_of_ble_eq_true rfl) (ls := [some (vR l0), some (vI l1)]) rfl fun g w C _ => ?_⟩
  refine j_iload_n C dX10_sky_0 rfl ?_
  obtain ⟨p1, ep1, h⟩ := bind_some h
  have qp1 := X10_isHour_ct ep1
  refine j_cSI C dX10_sky_1 sl_X10_245 qp1 (by omega) rfl rfl (Nat.le_of_ble_eq_true rfl) ?_
  refine j_if_eq C 19 dX10_sky_4 rfl h (fun c5 h => ?_) (fun c5 h => ?_)
  · refine j_iconst C dX10_sky_19 rfl ?_
    exact j_ri C dX10_sky_20 rfl (Option.some.inj h).symm rfl
  · refine j_aload_n C dX10_sky_7 rfl ?_
    refine j_getR C dX10_sky_8 CF10 (by decide) fl_X10_27 rfl rfl h (fun t2 h => ?_)
    refine j_getR C dX10_sky_11 CF5 (by decide) fl_X10_248 rfl rfl h (fun t3 h => ?_)
    refine j_iload_n C dX10_sky_14 rfl ?_
    refine j_iald C dX10_sky_15 rfl h (fun t4 h => ?_)
    refine j_goto C 20 dX10_sky_16 rfl ?_
    exact j_ri C dX10_sky_20 rfl (Option.some.inj h).symm rfl
theorem dX10_status_0 : decode cX10_status 0 = .ok (.iload_n 1, 1) := by decide +kernel
theorem dX10_status_1 : decode cX10_status 1 = .ok (.ifCond .lt 21, 3) := by decide +kernel
theorem dX10_status_4 : decode cX10_status 4 = .ok (.iload_n 1, 1) := by decide +kernel
theorem dX10_status_5 : decode cX10_status 5 = .ok (.aload_n 0, 1) := by decide +kernel
theorem dX10_status_6 : decode cX10_status 6 = .ok (.getfield 98, 3) := by decide +kernel
theorem dX10_status_9 : decode cX10_status 9 = .ok (.arraylength, 1) := by decide +kernel
theorem dX10_status_10 : decode cX10_status 10 = .ok (.if_icmp .ge 12, 3) := by decide +kernel
theorem dX10_status_13 : decode cX10_status 13 = .ok (.aload_n 0, 1) := by decide +kernel
theorem dX10_status_14 : decode cX10_status 14 = .ok (.getfield 98, 3) := by decide +kernel
theorem dX10_status_17 : decode cX10_status 17 = .ok (.iload_n 1, 1) := by decide +kernel
theorem dX10_status_18 : decode cX10_status 18 = .ok (.iaload, 1) := by decide +kernel
theorem dX10_status_19 : decode cX10_status 19 = .ok (.goto 4, 3) := by decide +kernel
theorem dX10_status_22 : decode cX10_status 22 = .ok (.iconst (-1), 1) := by decide +kernel
theorem dX10_status_23 : decode cX10_status 23 = .ok (.ireturn, 1) := by decide +kernel
set_option maxRecDepth 100000 in
set_option maxHeartbeats 4000000 in
theorem X10_status_ct {l0 : Nat} {l1 : Int} {m : Mem} {out : Int} (h : X10_status l0 l1 m = some out) : shK l0 = 10 + 10 ∧ CT yX10_status cX10_status 2 (some .int) 1 0 0 [vR l0, vI l1] 312 m (some (vI out)) 312 m := by
  unfold X10_status at h
  obtain ⟨hK, h⟩ := ite_some h
  have hlv : 0 < 1 := by decide
  refine ⟨hK, CT.of (by decide +kernel) rfl (Nat.le_of_ble_eq_true rfl) (ls := [some (vR l0), some (vI l1)]) rfl fun g w C _ => ?_⟩
  refine j_iload_n C dX10_status_0 rfl ?_
  refine j_if_lt C 22 dX10_status_1 rfl h (fun c6 h => ?_) (fun c6 h => ?_)
  · refine j_iconst C dX10_status_22 rfl ?_
    exact j_ri C dX10_status_23 rfl (Option.some.inj h).symm rfl
  · refine j_iload_n C dX10_status_4 rfl ?_
    refine j_aload_n C dX10_status_5 rfl ?_
    refine j_getR C dX10_status_6 CF10 (by decide) fl_X10_98 rfl rfl h (fun t1 h => ?_)
    refine j_alen C dX10_status_9 rfl h (fun t2 h => ?_)
    refine j_icmp_ge C 22 dX10_status_10 rfl h (fun c5 h => ?_) (fun c5 h => ?_)
    · refine j_iconst C dX10_status_22 rfl ?_
      exact j_ri C dX10_status_23 rfl (Option.some.inj h).symm rfl
    · refine j_aload_n C dX10_status_13 rfl ?_
      refine j_getR C dX10_status_14 CF10 (by decide) fl_X10_98 rfl rfl h (fun t3 h => ?_)
      refine j_iload_n C dX10_status_17 rfl ?_
      refine j_iald C dX10_status_18 rfl h (fun t4 h => ?_)
      refine j_goto C 23 dX10_status_19 rfl ?_
      exact j_ri C dX10_status_23 rfl (Option.some.inj h).symm rfl
theorem dX1_firstTooDry_0 : decode cX1_firstTooDry 0 = .ok (.iconst 0, 1) := by decide +kernel
theorem dX1_firstTooDry_1 : decode cX1_firstTooDry 1 = .ok (.istore_n 3, 1) := by decide +kernel
theorem dX1_firstTooDry_2 : decode cX1_firstTooDry 2 = .ok (.iload_n 3, 1) := by decide +kernel
theorem dX1_firstTooDry_3 : decode cX1_firstTooDry 3 = .ok (.aload_n 1, 1) := by decide +kernel
theorem dX1_firstTooDry_4 : decode cX1_firstTooDry 4 = .ok (.getfield 37, 3) := by decide +kernel
theorem dX1_firstTooDry_7 : decode cX1_firstTooDry 7 = .ok (.if_icmp .ge 24, 3) := by decide +kernel
theorem dX1_firstTooDry_10 : decode cX1_firstTooDry 10 = .ok (.aload_n 0, 1) := by decide +kernel
theorem dX1_firstTooDry_11 : decode cX1_firstTooDry 11 = .ok (.aload_n 2, 1) := by decide +kernel
theorem dX1_firstTooDry_12 : decode cX1_firstTooDry 12 = .ok (.iload_n 3, 1) := by decide +kernel
theorem dX1_firstTooDry_13 : decode cX1_firstTooDry 13 = .ok (.invokevirtual 47, 3) := by decide +kernel
theorem dX1_firstTooDry_16 : decode cX1_firstTooDry 16 = .ok (.aload_n 1, 1) := by decide +kernel
theorem dX1_firstTooDry_17 : decode cX1_firstTooDry 17 = .ok (.getfield 51, 3) := by decide +kernel
theorem dX1_firstTooDry_20 : decode cX1_firstTooDry 20 = .ok (.if_icmp .ge 5, 3) := by decide +kernel
theorem dX1_firstTooDry_23 : decode cX1_firstTooDry 23 = .ok (.iload_n 3, 1) := by decide +kernel
theorem dX1_firstTooDry_24 : decode cX1_firstTooDry 24 = .ok (.ireturn, 1) := by decide +kernel
theorem dX1_firstTooDry_25 : decode cX1_firstTooDry 25 = .ok (.iinc 3 1, 3) := by decide +kernel
theorem dX1_firstTooDry_28 : decode cX1_firstTooDry 28 = .ok (.goto (-26), 3) := by decide +kernel
theorem dX1_firstTooDry_31 : decode cX1_firstTooDry 31 = .ok (.iconst (-1), 1) := by decide +kernel
theorem dX1_firstTooDry_32 : decode cX1_firstTooDry 32 = .ok (.ireturn, 1) := by decide +kernel
set_option maxRecDepth 100000 in
set_option maxHeartbeats 4000000 in
theorem X1_firstTooDry_L2_bok {g : Gm} {w : Wd} (C : Cx g w RX1 cX1_firstTooDry 4 (some .int)) {lv : Nat} (hlv : 1 < lv) {N : Nat} {r2 : Nat → Nat → Nat → Int → Option Int} {l0 : Nat} {l1 : Nat} {l2 : Nat} {l3 : Int} {m : Mem} {out : Int} (hr2 : ∀ l0 l1 l2 l3, r2 l0 l1 l2 l3 = some out → Jd g w 4 (rmL lv 0 0) (Qm g w (some (vI out)) m) 2 [some (vR l0), some (vR l1), some (vR l2), some (vI l3)] [] 312 m 0 0) (h : X1_firstTooDry_L2_b N m r2 l0 l1 l2 l3 = some out) : Jd g w 4 (rmL lv 0 0) (Qm g w (some (vI out)) m) 2 [some (vR l0), some (vR l1), some (vR l2), some (vI l3)] [] 312 m 0 0 := by
  unfold X1_firstTooDry_L2_b at h
  refine j_iload_n C dX1_firstTooDry_2 rfl ?_
  refine j_aload_n C dX1_firstTooDry_3 rfl ?_
  refine j_getI C dX1_firstTooDry_4 CF5 (by decide) fl_X1_37 rfl rfl h (fun t1 h => ?_)
  refine j_icmp_ge C 31 dX1_firstTooDry_7 rfl h (fun c5 h => ?_) (fun c5 h => ?_)
  · refine j_iconst C dX1_firstTooDry_31 rfl ?_
    exact j_ri C dX1_firstTooDry_32 rfl (Option.some.inj h).symm rfl
  · refine j_aload_n C dX1_firstTooDry_10 rfl ?_
    refine j_aload_n C dX1_firstTooDry_11 rfl ?_
    refine j_iload_n C dX1_firstTooDry_12 rfl ?_
    obtain ⟨p2, ep2, h⟩ := bind_some h
    have qp2 := X1_filled_ct ep2
    refine j_cVI C dX1_firstTooDry_13 vl_X1_47 CF1 rfl qp2.1 qp2.2 (by omega) rfl rfl (Nat.le_of_ble_eq_true rfl) ?_
    refine j_aload_n C dX1_firstTooDry_16 rfl ?_
    refine j_getI C dX1_firstTooDry_17 CF5 (by decide) fl_X1_51 rfl rfl h (fun t3 h => ?_)
    refine j_icmp_ge C 25 dX1_firstTooDry_20 rfl h (fun c4 h => ?_) (fun c4 h => ?_)
    · refine j_iinc (ls' := [some (vR _), some (vR _), some (vR _), some (vI _)]) C dX1_firstTooDry_25 rfl (by decide) rfl ?_
      refine j_goto C 2 dX1_firstTooDry_28 rfl ?_
      exact hr2 _ _ _ _ h
    · refine j_iload_n C dX1_firstTooDry_23 rfl ?_
      exact j_ri C dX1_firstTooDry_24 rfl (Option.some.inj h).symm rfl
set_option maxRecDepth 100000 in
set_option maxHeartbeats 4000000 in
theorem X1_firstTooDry_L2_ok {g : Gm} {w : Wd} (C : Cx g w RX1 cX1_firstTooDry 4 (some .int)) {lv : Nat} (hlv : 1 < lv) {N : Nat} {m : Mem} {out : Int} (f : Nat) : ∀ {l0 : Nat} {l1 : Nat} {l2 : Nat} {l3 : Int}, X1_firstTooDry_L2 N m f l0 l1 l2 l3 = some out → Jd g w 4 (rmL lv 0 0) (Qm g w (some (vI out)) m) 2 [some (vR l0), some (vR l1), some (vR l2), some (vI l3)] [] 312 m 0 0 := by
  induction f with
  | zero => intro l0 l1 l2 l3 h; exact none_ne (α := Int) h
  | succ f ih => intro l0 l1 l2 l3 h; exact X1_firstTooDry_L2_bok C hlv (fun l0 l1 l2 l3 h => ih h) h
set_option maxRecDepth 100000 in
set_option maxHeartbeats 4000000 in
theorem X1_firstTooDry_ct {N : Nat} {l0 : Nat} {l1 : Nat} {l2 : Nat} {m : Mem} {out : Int} (h : X1_firstTooDry N l0 l1 l2 m = some out) : shK l0 = 1 + 10 ∧ CT yX1_firstTooDry cX1_firstTooDry 4 (some .int) 2 0 0 [vR l0, vR l1, vR l2] 312 m (some (vI out)) 312 m := by
  unfold X1_firstTooDry at h
  obtain ⟨hK, h⟩ := ite_some h
  have hlv : 1 < 2 := by decide
  refine ⟨hK, CT.of (by decide +kernel) rfl (Nat.le_of_ble_eq_true rfl) (ls := [some (vR l0), some (vR l1), some (vR l2), none]) rfl fun g w C _ => ?_⟩
  refine j_iconst C dX1_firstTooDry_0 rfl ?_
  refine j_istore_n (ls' := [some (vR _), some (vR _), some (vR _), some (vI _)]) C dX1_firstTooDry_1 (by decide) rfl ?_
  exact X1_firstTooDry_L2_ok C hlv N h
theorem dX10_stores_0 : decode cX10_stores 0 = .ok (.iload_n 1, 1) := by decide +kernel
theorem dX10_stores_1 : decode cX10_stores 1 = .ok (.ifCond .lt 8, 3) := by decide +kernel
theorem dX10_stores_4 : decode cX10_stores 4 = .ok (.iload_n 1, 1) := by decide +kernel
theorem dX10_stores_5 : decode cX10_stores 5 = .ok (.iconst 1, 1) := by decide +kernel
theorem dX10_stores_6 : decode cX10_stores 6 = .ok (.if_icmp .le 5, 3) := by decide +kernel
theorem dX10_stores_9 : decode cX10_stores 9 = .ok (.iconst (-1), 1) := by decide +kernel
theorem dX10_stores_10 : decode cX10_stores 10 = .ok (.ireturn, 1) := by decide +kernel
theorem dX10_stores_11 : decode cX10_stores 11 = .ok (.aload_n 0, 1) := by decide +kernel
theorem dX10_stores_12 : decode cX10_stores 12 = .ok (.invokevirtual 226, 3) := by decide +kernel
theorem dX10_stores_15 : decode cX10_stores 15 = .ok (.astore_n 2, 1) := by decide +kernel
theorem dX10_stores_16 : decode cX10_stores 16 = .ok (.aload_n 0, 1) := by decide +kernel
theorem dX10_stores_17 : decode cX10_stores 17 = .ok (.getfield 41, 3) := by decide +kernel
theorem dX10_stores_20 : decode cX10_stores 20 = .ok (.aload_n 0, 1) := by decide +kernel
theorem dX10_stores_21 : decode cX10_stores 21 = .ok (.getfield 37, 3) := by decide +kernel
theorem dX10_stores_24 : decode cX10_stores 24 = .ok (.invokevirtual 116, 3) := by decide +kernel
theorem dX10_stores_27 : decode cX10_stores 27 = .ok (.iconst 1, 1) := by decide +kernel
theorem dX10_stores_28 : decode cX10_stores 28 = .ok (.istore_n 3, 1) := by decide +kernel
theorem dX10_stores_29 : decode cX10_stores 29 = .ok (.iload_n 3, 1) := by decide +kernel
theorem dX10_stores_30 : decode cX10_stores 30 = .ok (.sipush 999, 3) := by decide +kernel
theorem dX10_stores_33 : decode cX10_stores 33 = .ok (.if_icmp .gt 53, 3) := by decide +kernel
theorem dX10_stores_36 : decode cX10_stores 36 = .ok (.aload_n 0, 1) := by decide +kernel
theorem dX10_stores_37 : decode cX10_stores 37 = .ok (.getfield 41, 3) := by decide +kernel
theorem dX10_stores_40 : decode cX10_stores 40 = .ok (.aload_n 0, 1) := by decide +kernel
theorem dX10_stores_41 : decode cX10_stores 41 = .ok (.getfield 27, 3) := by decide +kernel
theorem dX10_stores_44 : decode cX10_stores 44 = .ok (.aload_n 2, 1) := by decide +kernel
theorem dX10_stores_45 : decode cX10_stores 45 = .ok (.invokevirtual 397, 3) := by decide +kernel
theorem dX10_stores_48 : decode cX10_stores 48 = .ok (.istore 4, 2) := by decide +kernel
theorem dX10_stores_50 : decode cX10_stores 50 = .ok (.iload 4, 2) := by decide +kernel
theorem dX10_stores_52 : decode cX10_stores 52 = .ok (.iconst (-1), 1) := by decide +kernel
theorem dX10_stores_53 : decode cX10_stores 53 = .ok (.if_icmp .eq 14, 3) := by decide +kernel
theorem dX10_stores_56 : decode cX10_stores 56 = .ok (.iload_n 1, 1) := by decide +kernel
theorem dX10_stores_57 : decode cX10_stores 57 = .ok (.ifCond .ne 7, 3) := by decide +kernel
theorem dX10_stores_60 : decode cX10_stores 60 = .ok (.iload_n 3, 1) := by decide +kernel
theorem dX10_stores_61 : decode cX10_stores 61 = .ok (.goto 5, 3) := by decide +kernel
theorem dX10_stores_64 : decode cX10_stores 64 = .ok (.iload 4, 2) := by decide +kernel
theorem dX10_stores_66 : decode cX10_stores 66 = .ok (.ireturn, 1) := by decide +kernel
theorem dX10_stores_67 : decode cX10_stores 67 = .ok (.aload_n 0, 1) := by decide +kernel
theorem dX10_stores_68 : decode cX10_stores 68 = .ok (.getfield 41, 3) := by decide +kernel
theorem dX10_stores_71 : decode cX10_stores 71 = .ok (.aload_n 0, 1) := by decide +kernel
theorem dX10_stores_72 : decode cX10_stores 72 = .ok (.getfield 27, 3) := by decide +kernel
theorem dX10_stores_75 : decode cX10_stores 75 = .ok (.aload_n 2, 1) := by decide +kernel
theorem dX10_stores_76 : decode cX10_stores 76 = .ok (.invokevirtual 303, 3) := by decide +kernel
theorem dX10_stores_79 : decode cX10_stores 79 = .ok (.pop, 1) := by decide +kernel
theorem dX10_stores_80 : decode cX10_stores 80 = .ok (.iinc 3 1, 3) := by decide +kernel
theorem dX10_stores_83 : decode cX10_stores 83 = .ok (.goto (-54), 3) := by decide +kernel
theorem dX10_stores_86 : decode cX10_stores 86 = .ok (.iconst (-1), 1) := by decide +kernel
theorem dX10_stores_87 : decode cX10_stores 87 = .ok (.ireturn, 1) := by decide +kernel
set_option maxRecDepth 100000 in
set_option maxHeartbeats 4000000 in
theorem X10_stores_L29_bok {g : Gm} {w : Wd} (C : Cx g w RX10 cX10_stores 5 (some .int)) {lv : Nat} (hlv : 6 < lv) {N : Nat} {k56 : Int → Int → Int → Mem → Option (Int × Mem)} {r29 : Nat → Int → Nat → Int → Mem → Option (Int × Mem)} {l0 : Nat} {l1 : Int} {l2 : Nat} {l3 : Int} {m : Mem} {out : (Int × Mem)} (hk56 : ∀ l1 l3 l4 m, k56 l1 l3 l4 m = some out → Jd g w 5 (rmL lv 0 0) (Qm g w (some (vI out.1)) out.2) 56 [none, some (vI l1), none, some (vI l3), some (vI l4)] [] 312 m 0 0) (hr29 : ∀ l0 l1 l2 l3 m, r29 l0 l1 l2 l3 m = some out → Jd g w 5 (rmL lv 0 0) (Qm g w (some (vI out.1)) out.2) 29 [some (vR l0), some (vI l1), some (vR l2), some (vI l3), none] [] 312 m 0 0) (h : X10_stores_L29_b N k56 r29 l0 l1 l2 l3 m = some out) : Jd g w 5 (rmL lv 0 0) (Qm g w (some (vI out.1)) out.2) 29 [some (vR l0), some (vI l1), some (vR l2), some (vI l3), none] [] 312 m 0 0 := by
  unfold X10_stores_L29_b at h
  refine j_iload_n C dX10_stores_29 rfl ?_
  refine j_sipush C dX10_stores_30 rfl ?_
  refine j_icmp_gt C 86 dX10_stores_33 rfl h (fun c12 h => ?_) (fun c12 h => ?_)
  · refine j_iconst C dX10_stores_86 rfl ?_
    have e := Option.some.inj h
    subst e
    exact j_ri C dX10_stores_87 rfl rfl rfl
  · refine j_aload_n C dX10_stores_36 rfl ?_
    refine j_getR C dX10_stores_37 CF10 (by decide) fl_X10_41 rfl rfl h (fun t5 h => ?_)
    refine j_aload_n C dX10_stores_40 rfl ?_
    refine j_getR C dX10_stores_41 CF10 (by decide) fl_X10_27 rfl rfl h (fun t6 h => ?_)
    refine j_aload_n C dX10_stores_44 rfl ?_
    obtain ⟨p7, ep7, h⟩ := bind_some h
    have qp7 := X1_firstTooDry_ct ep7
    refine j_cVI C dX10_stores_45 vl_X10_397 CF1 rfl qp7.1 qp7.2 (by omega) rfl rfl (Nat.le_of_ble_eq_true rfl) ?_
    refine j_istore (ls' := [some (vR _), some (vI _), some (vR _), some (vI _), some (vI _)]) C dX10_stores_48 (by decide) rfl ?_
    refine j_iload C dX10_stores_50 rfl ?_
    refine j_iconst C dX10_stores_52 rfl ?_
    refine j_icmp_eq C 67 dX10_stores_53 rfl h (fun c11 h => ?_) (fun c11 h => ?_)
    · refine j_aload_n C dX10_stores_67 rfl ?_
      refine j_getR C dX10_stores_68 CF10 (by decide) fl_X10_41 rfl rfl h (fun t8 h => ?_)
      refine j_aload_n C dX10_stores_71 rfl ?_
      refine j_getR C dX10_stores_72 CF10 (by decide) fl_X10_27 rfl rfl h (fun t9 h => ?_)
      refine j_aload_n C dX10_stores_75 rfl ?_
      obtain ⟨p10, ep10, h⟩ := bind_some h
      have qp10 := X1_pour_ct ep10
      refine j_cVI C dX10_stores_76 vl_X10_303 CF1 rfl qp10.1 qp10.2 (by omega) rfl rfl (Nat.le_of_ble_eq_true rfl) ?_
      refine j_pop C dX10_stores_79 rfl ?_
      refine j_iinc (ls' := [some (vR _), some (vI _), some (vR _), some (vI _), some (vI _)]) C dX10_stores_80 rfl (by decide) rfl ?_
      refine j_goto C 29 dX10_stores_83 rfl ?_
      refine j_mask [true, true, true, true, false] (ls' := [some (vR _), some (vI _), some (vR _), some (vI _), none]) rfl ?_
      exact hr29 _ _ _ _ _ h
    · refine j_mask [false, true, false, true, true] (ls' := [none, some (vI _), none, some (vI _), some (vI _)]) rfl ?_
      exact hk56 _ _ _ _ h
set_option maxRecDepth 100000 in
set_option maxHeartbeats 4000000 in
theorem X10_stores_L29_ok {g : Gm} {w : Wd} (C : Cx g w RX10 cX10_stores 5 (some .int)) {lv : Nat} (hlv : 6 < lv) {N : Nat} {k56 : Int → Int → Int → Mem → Option (Int × Mem)} {out : (Int × Mem)} (hk56 : ∀ l1 l3 l4 m, k56 l1 l3 l4 m = some out → Jd g w 5 (rmL lv 0 0) (Qm g w (some (vI out.1)) out.2) 56 [none, some (vI l1), none, some (vI l3), some (vI l4)] [] 312 m 0 0) (f : Nat) : ∀ {l0 : Nat} {l1 : Int} {l2 : Nat} {l3 : Int} {m : Mem}, X10_stores_L29 N k56 f l0 l1 l2 l3 m = some out → Jd g w 5 (rmL lv 0 0) (Qm g w (some (vI out.1)) out.2) 29 [some (vR l0), some (vI l1), some (vR l2), some (vI l3), none] [] 312 m 0 0 := by
  induction f with
  | zero => intro l0 l1 l2 l3 m h; exact none_ne (α := (Int × Mem)) h
  | succ f ih => intro l0 l1 l2 l3 m h; exact X10_stores_L29_bok C hlv hk56 (fun l0 l1 l2 l3 m h => ih h) h
set_option maxRecDepth 100000 in
set_option maxHeartbeats 4000000 in
theorem X10_stores_ct {N : Nat} {l0 : Nat} {l1 : Int} {m : Mem} {out : (Int × Mem)} (h : X10_stores N l0 l1 m = some out) : shK l0 = 10 + 10 ∧ CT yX10_stores cX10_stores 5 (some .int) 7 0 0 [vR l0, vI l1] 312 m (some (vI out.1)) 312 out.2 := by
  unfold X10_stores at h
  obtain ⟨hK, h⟩ := ite_some h
  have hlv : 6 < 7 := by decide
  refine ⟨hK, CT.of (by decide +kernel) rfl (Nat.le_of_ble_eq_true rfl) (ls := [some (vR l0), some (vI l1), none, none, none]) rfl fun g w C _ => ?_⟩
  refine j_iload_n C dX10_stores_0 rfl ?_
  refine j_if_lt C 9 dX10_stores_1 rfl h (fun c19 h => ?_) (fun c19 h => ?_)
  · refine j_iconst C dX10_stores_9 rfl ?_
    have e := Option.some.inj h
    subst e
    exact j_ri C dX10_stores_10 rfl rfl rfl
  · refine j_iload_n C dX10_stores_4 rfl ?_
    refine j_iconst C dX10_stores_5 rfl ?_
    refine j_icmp_le C 11 dX10_stores_6 rfl h (fun c18 h => ?_) (fun c18 h => ?_)
    · refine j_aload_n C dX10_stores_11 rfl ?_
      obtain ⟨p1, ep1, h⟩ := bind_some h
      have qp1 := X10_asTold_ct ep1
      refine j_cVR C dX10_stores_12 vl_X10_226 CF10 rfl qp1.1 qp1.2 (by omega) rfl rfl (Nat.le_of_ble_eq_true rfl) ?_
      refine j_astore_n (ls' := [some (vR _), some (vI _), some (vR _), none, none]) C dX10_stores_15 (by decide) rfl ?_
      refine j_aload_n C dX10_stores_16 rfl ?_
      refine j_getR C dX10_stores_17 CF10 (by decide) fl_X10_41 rfl rfl h (fun t2 h => ?_)
      refine j_aload_n C dX10_stores_20 rfl ?_
      refine j_getR C dX10_stores_21 CF10 (by decide) fl_X10_37 rfl rfl h (fun t3 h => ?_)
      obtain ⟨p4, ep4, h⟩ := bind_some h
      have qp4 := X1_copyFrom_ct ep4
      refine j_cVV C dX10_stores_24 vl_X10_116 CF1 rfl qp4.1 qp4.2 (by omega) rfl rfl (Nat.le_of_ble_eq_true rfl) ?_
      refine j_iconst C dX10_stores_27 rfl ?_
      refine j_istore_n (ls' := [some (vR _), some (vI _), some (vR _), some (vI _), none]) C dX10_stores_28 (by decide) rfl ?_
      refine X10_stores_L29_ok C hlv (fun z13 z14 z15 m16 h => ?_) N h
      refine j_iload_n C dX10_stores_56 rfl ?_
      refine j_if_ne C 64 dX10_stores_57 rfl h (fun c17 h => ?_) (fun c17 h => ?_)
      · refine j_iload C dX10_stores_64 rfl ?_
        have e := Option.some.inj h
        subst e
        exact j_ri C dX10_stores_66 rfl rfl rfl
      · refine j_iload_n C dX10_stores_60 rfl ?_
        refine j_goto C 66 dX10_stores_61 rfl ?_
        have e := Option.some.inj h
        subst e
        exact j_ri C dX10_stores_66 rfl rfl rfl
    · refine j_iconst C dX10_stores_9 rfl ?_
      have e := Option.some.inj h
      subst e
      exact j_ri C dX10_stores_10 rfl rfl rfl
