theorem dX8_init_0 : decode cX8_init 0 = .ok (.aload_n 0, 1) := by decide +kernel
theorem dX8_init_1 : decode cX8_init 1 = .ok (.invokespecial 5, 3) := by decide +kernel
theorem dX8_init_4 : decode cX8_init 4 = .ok (.aload_n 0, 1) := by decide +kernel
theorem dX8_init_5 : decode cX8_init 5 = .ok (.bipush 27, 2) := by decide +kernel
theorem dX8_init_7 : decode cX8_init 7 = .ok (.newarray .long, 2) := by decide +kernel
theorem dX8_init_9 : decode cX8_init 9 = .ok (.putfield 11, 3) := by decide +kernel
theorem dX8_init_12 : decode cX8_init 12 = .ok (.aload_n 0, 1) := by decide +kernel
theorem dX8_init_13 : decode cX8_init 13 = .ok (.sipush 1601, 3) := by decide +kernel
theorem dX8_init_16 : decode cX8_init 16 = .ok (.newarray .long, 2) := by decide +kernel
theorem dX8_init_18 : decode cX8_init 18 = .ok (.putfield 15, 3) := by decide +kernel
theorem dX8_init_21 : decode cX8_init 21 = .ok (.aload_n 0, 1) := by decide +kernel
theorem dX8_init_22 : decode cX8_init 22 = .ok (.iconst 0, 1) := by decide +kernel
theorem dX8_init_23 : decode cX8_init 23 = .ok (.putfield 18, 3) := by decide +kernel
theorem dX8_init_26 : decode cX8_init 26 = .ok (.aload_n 0, 1) := by decide +kernel
theorem dX8_init_27 : decode cX8_init 27 = .ok (.iconst 0, 1) := by decide +kernel
theorem dX8_init_28 : decode cX8_init 28 = .ok (.putfield 22, 3) := by decide +kernel
theorem dX8_init_31 : decode cX8_init 31 = .ok (.aload_n 0, 1) := by decide +kernel
theorem dX8_init_32 : decode cX8_init 32 = .ok (.iconst 0, 1) := by decide +kernel
theorem dX8_init_33 : decode cX8_init 33 = .ok (.putfield 25, 3) := by decide +kernel
theorem dX8_init_36 : decode cX8_init 36 = .ok (.iconst 0, 1) := by decide +kernel
theorem dX8_init_37 : decode cX8_init 37 = .ok (.istore_n 1, 1) := by decide +kernel
theorem dX8_init_38 : decode cX8_init 38 = .ok (.lconst 0, 1) := by decide +kernel
theorem dX8_init_39 : decode cX8_init 39 = .ok (.lstore_n 2, 1) := by decide +kernel
theorem dX8_init_40 : decode cX8_init 40 = .ok (.iconst 0, 1) := by decide +kernel
theorem dX8_init_41 : decode cX8_init 41 = .ok (.istore 4, 2) := by decide +kernel
theorem dX8_init_43 : decode cX8_init 43 = .ok (.iconst 0, 1) := by decide +kernel
theorem dX8_init_44 : decode cX8_init 44 = .ok (.istore 5, 2) := by decide +kernel
theorem dX8_init_46 : decode cX8_init 46 = .ok (.iload 5, 2) := by decide +kernel
theorem dX8_init_48 : decode cX8_init 48 = .ok (.ldc 29, 2) := by decide +kernel
theorem dX8_init_50 : decode cX8_init 50 = .ok (.invokevirtual 31, 3) := by decide +kernel
theorem dX8_init_53 : decode cX8_init 53 = .ok (.if_icmp .ge 73, 3) := by decide +kernel
theorem dX8_init_56 : decode cX8_init 56 = .ok (.iload_n 1, 1) := by decide +kernel
theorem dX8_init_57 : decode cX8_init 57 = .ok (.bipush 27, 2) := by decide +kernel
theorem dX8_init_59 : decode cX8_init 59 = .ok (.if_icmp .ge 67, 3) := by decide +kernel
theorem dX8_init_62 : decode cX8_init 62 = .ok (.ldc 29, 2) := by decide +kernel
theorem dX8_init_64 : decode cX8_init 64 = .ok (.iload 5, 2) := by decide +kernel
theorem dX8_init_66 : decode cX8_init 66 = .ok (.invokevirtual 37, 3) := by decide +kernel
theorem dX8_init_69 : decode cX8_init 69 = .ok (.istore 6, 2) := by decide +kernel
theorem dX8_init_71 : decode cX8_init 71 = .ok (.iload 6, 2) := by decide +kernel
theorem dX8_init_73 : decode cX8_init 73 = .ok (.bipush 32, 2) := by decide +kernel
theorem dX8_init_75 : decode cX8_init 75 = .ok (.if_icmp .ne 29, 3) := by decide +kernel
theorem dX8_init_78 : decode cX8_init 78 = .ok (.aload_n 0, 1) := by decide +kernel
theorem dX8_init_79 : decode cX8_init 79 = .ok (.getfield 11, 3) := by decide +kernel
theorem dX8_init_82 : decode cX8_init 82 = .ok (.iload_n 1, 1) := by decide +kernel
theorem dX8_init_83 : decode cX8_init 83 = .ok (.lload_n 2, 1) := by decide +kernel
theorem dX8_init_84 : decode cX8_init 84 = .ok (.iconst 5, 1) := by decide +kernel
theorem dX8_init_85 : decode cX8_init 85 = .ok (.bipush 7, 2) := by decide +kernel
theorem dX8_init_87 : decode cX8_init 87 = .ok (.iload 4, 2) := by decide +kernel
theorem dX8_init_89 : decode cX8_init 89 = .ok (.isub, 1) := by decide +kernel
theorem dX8_init_90 : decode cX8_init 90 = .ok (.imul, 1) := by decide +kernel
theorem dX8_init_91 : decode cX8_init 91 = .ok (.lshl, 1) := by decide +kernel
theorem dX8_init_92 : decode cX8_init 92 = .ok (.lastore, 1) := by decide +kernel
theorem dX8_init_93 : decode cX8_init 93 = .ok (.iinc 1 1, 3) := by decide +kernel
theorem dX8_init_96 : decode cX8_init 96 = .ok (.lconst 0, 1) := by decide +kernel
theorem dX8_init_97 : decode cX8_init 97 = .ok (.lstore_n 2, 1) := by decide +kernel
theorem dX8_init_98 : decode cX8_init 98 = .ok (.iconst 0, 1) := by decide +kernel
theorem dX8_init_99 : decode cX8_init 99 = .ok (.istore 4, 2) := by decide +kernel
theorem dX8_init_101 : decode cX8_init 101 = .ok (.goto 19, 3) := by decide +kernel
theorem dX8_init_104 : decode cX8_init 104 = .ok (.lload_n 2, 1) := by decide +kernel
theorem dX8_init_105 : decode cX8_init 105 = .ok (.ldc2_w 41, 3) := by decide +kernel
theorem dX8_init_108 : decode cX8_init 108 = .ok (.lmul, 1) := by decide +kernel
theorem dX8_init_109 : decode cX8_init 109 = .ok (.iload 6, 2) := by decide +kernel
theorem dX8_init_111 : decode cX8_init 111 = .ok (.invokestatic 43, 3) := by decide +kernel
theorem dX8_init_114 : decode cX8_init 114 = .ok (.i2l, 1) := by decide +kernel
theorem dX8_init_115 : decode cX8_init 115 = .ok (.ladd, 1) := by decide +kernel
theorem dX8_init_116 : decode cX8_init 116 = .ok (.lstore_n 2, 1) := by decide +kernel
theorem dX8_init_117 : decode cX8_init 117 = .ok (.iinc 4 1, 3) := by decide +kernel
theorem dX8_init_120 : decode cX8_init 120 = .ok (.iinc 5 1, 3) := by decide +kernel
theorem dX8_init_123 : decode cX8_init 123 = .ok (.goto (-77), 3) := by decide +kernel
theorem dX8_init_126 : decode cX8_init 126 = .ok (.return_, 1) := by decide +kernel
theorem eX8_numberOf_0 : decode cX8_numberOf 0 = .ok (.iload_n 0, 1) := by decide +kernel
theorem eX8_numberOf_1 : decode cX8_numberOf 1 = .ok (.bipush 97, 2) := by decide +kernel
theorem eX8_numberOf_3 : decode cX8_numberOf 3 = .ok (.isub, 1) := by decide +kernel
theorem eX8_numberOf_4 : decode cX8_numberOf 4 = .ok (.iconst 1, 1) := by decide +kernel
theorem eX8_numberOf_5 : decode cX8_numberOf 5 = .ok (.iadd, 1) := by decide +kernel
theorem eX8_numberOf_6 : decode cX8_numberOf 6 = .ok (.ireturn, 1) := by decide +kernel
theorem oi_X8_5 : Cond.methodLink RX8 5 Lib.objectInit ∈ tb ∧ Cond.instanceMethod Lib.objectInit ∈ tb ∧ Cond.code Lib.objectInit ⟨#[0xb1]⟩ 1 none ∈ tb := ⟨tbi_1 (i := 40) rfl rfl, tbi_1 (i := 27) rfl rfl, tbi_1 (i := 28) rfl rfl⟩
set_option maxRecDepth 100000 in
theorem numberOf_ctn {n : Nat} {m : Mem} {x : Int} : CT yX8_numberOf cX8_numberOf 1 (some .int) 1 0 0 [vI x] n m (some (vI (wI (wI (x - 97) + 1)))) n m := by
  refine CT.of (by decide +kernel) rfl (Nat.le_of_ble_eq_true rfl) (ls := [some (vI x)]) rfl fun g w C hnm => ?_
  refine j_iload_n C eX8_numberOf_0 rfl ?_
  refine j_bipush C eX8_numberOf_1 rfl ?_
  refine j_isub C eX8_numberOf_3 ?_
  refine j_iconst C eX8_numberOf_4 rfl ?_
  refine j_iadd C eX8_numberOf_5 ?_
  exact j_iret C eX8_numberOf_6 rfl (Nat.le_refl 0) (Nat.le_refl 0) rfl rfl rfl
def X8_init_L (l0 n : Nat) : Nat → Int → Int → Int → Int → MLs → Option MLs
  | 0, _, _, _, _, _ => none
  | f + 1, w0, key, le, i, L =>
    if 146 ≤ i then some L else
    if 27 ≤ w0 then some L else
    if i < 0 then none else
    if ¬ strI.getD i.toNat 0 = 32 then X8_init_L l0 n f w0 (wL (wL (key * 32) + wI (wI (strI.getD i.toNat 0 - 97) + 1))) (wI (le + 1)) (wI (i + 1)) L else
    (getCR 8 0 l0 n L).bind fun t =>
    (astCL t w0 (lshl key (wI (5 * wI (7 - le)))) n L).bind fun L1 =>
    X8_init_L l0 n f (wI (w0 + 1)) 0 0 (wI (i + 1)) L1
def X8_init (l0 n : Nat) (L : MLs) : Option (Nat × MLs) :=
  (newA 2 27 n).bind fun n1 =>
  (putCR 8 0 l0 n1 n1 L).bind fun L2 =>
  (newA 2 1601 n1).bind fun n3 =>
  (putCR 8 1 l0 n3 n3 L2).bind fun L4 =>
  (putC 8 2 l0 0 n3 L4).bind fun L5 =>
  (putC 8 3 l0 0 n3 L5).bind fun L6 =>
  (putC 8 4 l0 0 n3 L6).bind fun L7 =>
  (X8_init_L l0 n3 200 0 0 0 0 L7).bind fun LZ =>
  some (n3, LZ)
set_option maxRecDepth 100000 in
set_option maxHeartbeats 4000000 in
theorem X8_init_L_ok {g : Gm} {w : Wd} (C : Cx g w RX8 cX8_init 7 none) {l0 n : Nat} {out : MLs} : ∀ (f : Nat) {w0 key le i : Int} {L : MLs}, X8_init_L l0 n f w0 key le i L = some out →
    Jd g w 7 (rmL 5 2 1628) (MQ (gb g) (Qw w n (mo out) none) (ga g) (gs g) 2 1628 (aw w)) 46 [some (vR l0), some (vI w0), some (vL key), none, some (vI le), some (vI i), none] [] n (mo L) 2 1628 := by
  intro f
  induction f with
  | zero => intro w0 key le i L h; exact none_ne (α := MLs) h
  | succ f ih =>
    intro w0 key le i L h
    rw [X8_init_L] at h
    refine j_iload C dX8_init_46 rfl ?_
    refine j_ldcS C dX8_init_48 ?_
    refine j_callVS C rfl dX8_init_50 vl_X8_31 strlen_ct (Nat.le_of_ble_eq_true rfl) (Nat.le_of_ble_eq_true rfl) (Nat.le_refl _) (Nat.le_refl _) rfl rfl (Nat.le_of_ble_eq_true rfl) ?_
    refine j_icmp_ge C 126 dX8_init_53 rfl h (fun c1 h => ?_) (fun c1 h => ?_)
    · have e := Option.some.inj h
      subst e
      exact j_vret C dX8_init_126 rfl (Nat.le_refl _) (Nat.le_refl _) rfl rfl rfl
    refine j_iload_n C dX8_init_56 rfl ?_
    refine j_bipush C dX8_init_57 rfl ?_
    refine j_icmp_ge C 126 dX8_init_59 rfl h (fun c2 h => ?_) (fun c2 h => ?_)
    · have e := Option.some.inj h
      subst e
      exact j_vret C dX8_init_126 rfl (Nat.le_refl _) (Nat.le_refl _) rfl rfl rfl
    obtain ⟨c3, h⟩ := ite_none h
    refine j_ldcS C dX8_init_62 ?_
    refine j_iload C dX8_init_64 rfl ?_
    refine j_callVS C rfl dX8_init_66 vl_X8_37 (charAt_ct (by omega) (by omega)) (Nat.le_of_ble_eq_true rfl) (Nat.le_of_ble_eq_true rfl) (Nat.le_refl _) (Nat.le_refl _) rfl rfl (Nat.le_of_ble_eq_true rfl) ?_
    refine j_istore (ls' := [some (vR _), some (vI _), some (vL _), none, some (vI _), some (vI _), some (vI _)]) C dX8_init_69 (by decide) rfl ?_
    refine j_iload C dX8_init_71 rfl ?_
    refine j_bipush C dX8_init_73 rfl ?_
    refine j_icmp_ne C 104 dX8_init_75 rfl h (fun c4 h => ?_) (fun c4 h => ?_)
    · refine j_lload_n C dX8_init_104 rfl ?_
      refine j_ldc2 (v := 32) C dX8_init_105 k_X8_41 rfl rfl ?_
      refine j_lmul C dX8_init_108 ?_
      refine j_iload C dX8_init_109 rfl ?_
      refine j_callS C dX8_init_111 sl_X8_43 numberOf_ctn rfl (by decide) (Nat.le_refl _) (Nat.le_refl _) rfl rfl (Nat.le_of_ble_eq_true rfl) ?_
      refine j_i2l C dX8_init_114 ?_
      refine j_ladd C dX8_init_115 ?_
      refine j_lstore_n (ls' := [some (vR _), some (vI _), some (vL _), none, some (vI _), some (vI _), some (vI _)]) C dX8_init_116 (by decide) rfl ?_
      refine j_iinc (ls' := [some (vR _), some (vI _), some (vL _), none, some (vI _), some (vI _), some (vI _)]) C dX8_init_117 rfl (by decide) rfl ?_
      refine j_iinc (ls' := [some (vR _), some (vI _), some (vL _), none, some (vI _), some (vI _), some (vI _)]) C dX8_init_120 rfl (by decide) rfl ?_
      refine j_goto C 46 dX8_init_123 rfl ?_
      refine j_mask [true, true, true, true, true, true, false] (ls' := [some (vR _), some (vI _), some (vL _), none, some (vI _), some (vI _), none]) rfl ?_
      exact ih h
    · refine j_aload_n C dX8_init_78 rfl ?_
      refine j_getCR C dX8_init_79 CF8 (by decide) fl_X8_11 rfl h (fun t h => ?_)
      refine j_iload_n C dX8_init_82 rfl ?_
      refine j_lload_n C dX8_init_83 rfl ?_
      refine j_iconst C dX8_init_84 rfl ?_
      refine j_bipush C dX8_init_85 rfl ?_
      refine j_iload C dX8_init_87 rfl ?_
      refine j_isub C dX8_init_89 ?_
      refine j_imul C dX8_init_90 ?_
      refine j_lshl C dX8_init_91 ?_
      refine j_astCL C dX8_init_92 h (fun L1 h => ?_)
      refine j_iinc (ls' := [some (vR _), some (vI _), some (vL _), none, some (vI _), some (vI _), some (vI _)]) C dX8_init_93 rfl (by decide) rfl ?_
      refine j_lconst (v := 0) C dX8_init_96 rfl rfl ?_
      refine j_lstore_n (ls' := [some (vR _), some (vI _), some (vL _), none, some (vI _), some (vI _), some (vI _)]) C dX8_init_97 (by decide) rfl ?_
      refine j_iconst C dX8_init_98 rfl ?_
      refine j_istore (ls' := [some (vR _), some (vI _), some (vL _), none, some (vI _), some (vI _), some (vI _)]) C dX8_init_99 (by decide) rfl ?_
      refine j_goto C 120 dX8_init_101 rfl ?_
      refine j_iinc (ls' := [some (vR _), some (vI _), some (vL _), none, some (vI _), some (vI _), some (vI _)]) C dX8_init_120 rfl (by decide) rfl ?_
      refine j_goto C 46 dX8_init_123 rfl ?_
      refine j_mask [true, true, true, true, true, true, false] (ls' := [some (vR _), some (vI _), some (vL _), none, some (vI _), some (vI _), none]) rfl ?_
      exact ih h
set_option maxRecDepth 100000 in
set_option maxHeartbeats 4000000 in
theorem X8_init_ct {l0 n : Nat} {L : MLs} {out : Nat × MLs} (h : X8_init l0 n L = some out) : CT yX8_init cX8_init 7 none 5 2 1628 [vR l0] n (mo L) none out.1 (mo out.2) := by
  unfold X8_init at h
  refine CT.of (by decide +kernel) rfl (Nat.le_of_ble_eq_true rfl) (ls := [some (vR l0), none, none, none, none, none, none]) rfl fun g w C hnm => ?_
  refine j_aload_n C dX8_init_0 rfl ?_
  refine j_obj C dX8_init_1 oi_X8_5 rfl (by decide) (Nat.le_of_ble_eq_true rfl) ?_
  refine j_aload_n C dX8_init_4 rfl ?_
  refine j_bipush C dX8_init_5 rfl ?_
  refine j_newarr C 2 dX8_init_7 (Or.inr ⟨rfl, rfl⟩) acL 27 rfl (Nat.le_of_ble_eq_true rfl) (Nat.le_of_ble_eq_true rfl) h (fun n1 h => ?_)
  refine j_putCR C dX8_init_9 CF8 (by decide) fl_X8_11 rfl (Or.inr ⟨_, rfl⟩) (Or.inr ⟨rfl, hnm, rfl⟩) h (fun L2 h => ?_)
  refine j_aload_n C dX8_init_12 rfl ?_
  refine j_sipush C dX8_init_13 rfl ?_
  refine j_newarr C 2 dX8_init_16 (Or.inr ⟨rfl, rfl⟩) acL 1601 rfl (Nat.le_of_ble_eq_true rfl) (Nat.le_of_ble_eq_true rfl) h (fun n3 h => ?_)
  refine j_putCR C dX8_init_18 CF8 (by decide) fl_X8_15 rfl (Or.inr ⟨_, rfl⟩) (Or.inr ⟨rfl, hnm, rfl⟩) h (fun L4 h => ?_)
  refine j_aload_n C dX8_init_21 rfl ?_
  refine j_iconst C dX8_init_22 rfl ?_
  refine j_putCI C dX8_init_23 CF8 (by decide) fl_X8_18 rfl ⟨rfl, rfl⟩ (Or.inl rfl) h (fun L5 h => ?_)
  refine j_aload_n C dX8_init_26 rfl ?_
  refine j_iconst C dX8_init_27 rfl ?_
  refine j_putCI C dX8_init_28 CF8 (by decide) fl_X8_22 rfl ⟨rfl, rfl⟩ (Or.inl rfl) h (fun L6 h => ?_)
  refine j_aload_n C dX8_init_31 rfl ?_
  refine j_iconst C dX8_init_32 rfl ?_
  refine j_putCI C dX8_init_33 CF8 (by decide) fl_X8_25 rfl ⟨rfl, rfl⟩ (Or.inl rfl) h (fun L7 h => ?_)
  obtain ⟨LZ, eZ, h⟩ := bind_some h
  have e := Option.some.inj h
  subst e
  refine j_iconst C dX8_init_36 rfl ?_
  refine j_istore_n (ls' := [some (vR _), some (vI _), none, none, none, none, none]) C dX8_init_37 (by decide) rfl ?_
  refine j_lconst (v := 0) C dX8_init_38 rfl rfl ?_
  refine j_lstore_n (ls' := [some (vR _), some (vI _), some (vL _), none, none, none, none]) C dX8_init_39 (by decide) rfl ?_
  refine j_iconst C dX8_init_40 rfl ?_
  refine j_istore (ls' := [some (vR _), some (vI _), some (vL _), none, some (vI _), none, none]) C dX8_init_41 (by decide) rfl ?_
  refine j_iconst C dX8_init_43 rfl ?_
  refine j_istore (ls' := [some (vR _), some (vI _), some (vL _), none, some (vI _), some (vI _), none]) C dX8_init_44 (by decide) rfl ?_
  exact X8_init_L_ok C 200 eZ
