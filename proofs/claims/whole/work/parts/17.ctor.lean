theorem dX8_init_0 : decode cX8_init 0 = .ok (.aload_n 0, 1) := by decide +kernel
theorem dX8_init_1 : decode cX8_init 1 = .ok (.invokespecial 3, 3) := by decide +kernel
theorem dX8_init_4 : decode cX8_init 4 = .ok (.aload_n 0, 1) := by decide +kernel
theorem dX8_init_5 : decode cX8_init 5 = .ok (.bipush 27, 2) := by decide +kernel
theorem dX8_init_7 : decode cX8_init 7 = .ok (.newarray .long, 2) := by decide +kernel
theorem dX8_init_9 : decode cX8_init 9 = .ok (.putfield 11, 3) := by decide +kernel
theorem dX8_init_12 : decode cX8_init 12 = .ok (.aload_n 0, 1) := by decide +kernel
theorem dX8_init_13 : decode cX8_init 13 = .ok (.sipush 1601, 3) := by decide +kernel
theorem dX8_init_16 : decode cX8_init 16 = .ok (.newarray .int, 2) := by decide +kernel
theorem dX8_init_18 : decode cX8_init 18 = .ok (.putfield 15, 3) := by decide +kernel
theorem dX8_init_21 : decode cX8_init 21 = .ok (.aload_n 0, 1) := by decide +kernel
theorem dX8_init_22 : decode cX8_init 22 = .ok (.sipush 1601, 3) := by decide +kernel
theorem dX8_init_25 : decode cX8_init 25 = .ok (.newarray .int, 2) := by decide +kernel
theorem dX8_init_27 : decode cX8_init 27 = .ok (.putfield 19, 3) := by decide +kernel
theorem dX8_init_30 : decode cX8_init 30 = .ok (.aload_n 0, 1) := by decide +kernel
theorem dX8_init_31 : decode cX8_init 31 = .ok (.sipush 1601, 3) := by decide +kernel
theorem dX8_init_34 : decode cX8_init 34 = .ok (.newarray .int, 2) := by decide +kernel
theorem dX8_init_36 : decode cX8_init 36 = .ok (.putfield 22, 3) := by decide +kernel
theorem dX8_init_39 : decode cX8_init 39 = .ok (.aload_n 0, 1) := by decide +kernel
theorem dX8_init_40 : decode cX8_init 40 = .ok (.iconst 0, 1) := by decide +kernel
theorem dX8_init_41 : decode cX8_init 41 = .ok (.putfield 25, 3) := by decide +kernel
theorem dX8_init_44 : decode cX8_init 44 = .ok (.aload_n 0, 1) := by decide +kernel
theorem dX8_init_45 : decode cX8_init 45 = .ok (.iconst 0, 1) := by decide +kernel
theorem dX8_init_46 : decode cX8_init 46 = .ok (.putfield 29, 3) := by decide +kernel
theorem dX8_init_49 : decode cX8_init 49 = .ok (.aload_n 0, 1) := by decide +kernel
theorem dX8_init_50 : decode cX8_init 50 = .ok (.iconst 0, 1) := by decide +kernel
theorem dX8_init_51 : decode cX8_init 51 = .ok (.putfield 32, 3) := by decide +kernel
theorem dX8_init_54 : decode cX8_init 54 = .ok (.iconst 0, 1) := by decide +kernel
theorem dX8_init_55 : decode cX8_init 55 = .ok (.istore_n 1, 1) := by decide +kernel
theorem dX8_init_56 : decode cX8_init 56 = .ok (.lconst 0, 1) := by decide +kernel
theorem dX8_init_57 : decode cX8_init 57 = .ok (.lstore_n 2, 1) := by decide +kernel
theorem dX8_init_58 : decode cX8_init 58 = .ok (.iconst 0, 1) := by decide +kernel
theorem dX8_init_59 : decode cX8_init 59 = .ok (.istore 4, 2) := by decide +kernel
theorem dX8_init_61 : decode cX8_init 61 = .ok (.iconst 0, 1) := by decide +kernel
theorem dX8_init_62 : decode cX8_init 62 = .ok (.istore 5, 2) := by decide +kernel
theorem dX8_init_64 : decode cX8_init 64 = .ok (.iload 5, 2) := by decide +kernel
theorem dX8_init_66 : decode cX8_init 66 = .ok (.ldc 36, 2) := by decide +kernel
theorem dX8_init_68 : decode cX8_init 68 = .ok (.invokevirtual 38, 3) := by decide +kernel
theorem dX8_init_71 : decode cX8_init 71 = .ok (.if_icmp .ge 73, 3) := by decide +kernel
theorem dX8_init_74 : decode cX8_init 74 = .ok (.iload_n 1, 1) := by decide +kernel
theorem dX8_init_75 : decode cX8_init 75 = .ok (.bipush 27, 2) := by decide +kernel
theorem dX8_init_77 : decode cX8_init 77 = .ok (.if_icmp .ge 67, 3) := by decide +kernel
theorem dX8_init_80 : decode cX8_init 80 = .ok (.ldc 36, 2) := by decide +kernel
theorem dX8_init_82 : decode cX8_init 82 = .ok (.iload 5, 2) := by decide +kernel
theorem dX8_init_84 : decode cX8_init 84 = .ok (.invokevirtual 44, 3) := by decide +kernel
theorem dX8_init_87 : decode cX8_init 87 = .ok (.istore 6, 2) := by decide +kernel
theorem dX8_init_89 : decode cX8_init 89 = .ok (.iload 6, 2) := by decide +kernel
theorem dX8_init_91 : decode cX8_init 91 = .ok (.bipush 32, 2) := by decide +kernel
theorem dX8_init_93 : decode cX8_init 93 = .ok (.if_icmp .ne 29, 3) := by decide +kernel
theorem dX8_init_96 : decode cX8_init 96 = .ok (.aload_n 0, 1) := by decide +kernel
theorem dX8_init_97 : decode cX8_init 97 = .ok (.getfield 11, 3) := by decide +kernel
theorem dX8_init_100 : decode cX8_init 100 = .ok (.iload_n 1, 1) := by decide +kernel
theorem dX8_init_101 : decode cX8_init 101 = .ok (.lload_n 2, 1) := by decide +kernel
theorem dX8_init_102 : decode cX8_init 102 = .ok (.iconst 5, 1) := by decide +kernel
theorem dX8_init_103 : decode cX8_init 103 = .ok (.bipush 7, 2) := by decide +kernel
theorem dX8_init_105 : decode cX8_init 105 = .ok (.iload 4, 2) := by decide +kernel
theorem dX8_init_107 : decode cX8_init 107 = .ok (.isub, 1) := by decide +kernel
theorem dX8_init_108 : decode cX8_init 108 = .ok (.imul, 1) := by decide +kernel
theorem dX8_init_109 : decode cX8_init 109 = .ok (.lshl, 1) := by decide +kernel
theorem dX8_init_110 : decode cX8_init 110 = .ok (.lastore, 1) := by decide +kernel
theorem dX8_init_111 : decode cX8_init 111 = .ok (.iinc 1 1, 3) := by decide +kernel
theorem dX8_init_114 : decode cX8_init 114 = .ok (.lconst 0, 1) := by decide +kernel
theorem dX8_init_115 : decode cX8_init 115 = .ok (.lstore_n 2, 1) := by decide +kernel
theorem dX8_init_116 : decode cX8_init 116 = .ok (.iconst 0, 1) := by decide +kernel
theorem dX8_init_117 : decode cX8_init 117 = .ok (.istore 4, 2) := by decide +kernel
theorem dX8_init_119 : decode cX8_init 119 = .ok (.goto 19, 3) := by decide +kernel
theorem dX8_init_122 : decode cX8_init 122 = .ok (.lload_n 2, 1) := by decide +kernel
theorem dX8_init_123 : decode cX8_init 123 = .ok (.ldc2_w 48, 3) := by decide +kernel
theorem dX8_init_126 : decode cX8_init 126 = .ok (.lmul, 1) := by decide +kernel
theorem dX8_init_127 : decode cX8_init 127 = .ok (.iload 6, 2) := by decide +kernel
theorem dX8_init_129 : decode cX8_init 129 = .ok (.invokestatic 50, 3) := by decide +kernel
theorem dX8_init_132 : decode cX8_init 132 = .ok (.i2l, 1) := by decide +kernel
theorem dX8_init_133 : decode cX8_init 133 = .ok (.ladd, 1) := by decide +kernel
theorem dX8_init_134 : decode cX8_init 134 = .ok (.lstore_n 2, 1) := by decide +kernel
theorem dX8_init_135 : decode cX8_init 135 = .ok (.iinc 4 1, 3) := by decide +kernel
theorem dX8_init_138 : decode cX8_init 138 = .ok (.iinc 5 1, 3) := by decide +kernel
theorem dX8_init_141 : decode cX8_init 141 = .ok (.goto (-77), 3) := by decide +kernel
theorem dX8_init_144 : decode cX8_init 144 = .ok (.return_, 1) := by decide +kernel
theorem eX8_numberOf_0 : decode cX8_numberOf 0 = .ok (.iload_n 0, 1) := by decide +kernel
theorem eX8_numberOf_1 : decode cX8_numberOf 1 = .ok (.bipush 97, 2) := by decide +kernel
theorem eX8_numberOf_3 : decode cX8_numberOf 3 = .ok (.isub, 1) := by decide +kernel
theorem eX8_numberOf_4 : decode cX8_numberOf 4 = .ok (.iconst 1, 1) := by decide +kernel
theorem eX8_numberOf_5 : decode cX8_numberOf 5 = .ok (.iadd, 1) := by decide +kernel
theorem eX8_numberOf_6 : decode cX8_numberOf 6 = .ok (.ireturn, 1) := by decide +kernel
theorem oi_X8_3 : Cond.methodLink RX8 3 Lib.objectInit ∈ tb ∧ Cond.instanceMethod Lib.objectInit ∈ tb ∧ Cond.code Lib.objectInit ⟨#[0xb1]⟩ 1 none ∈ tb := ⟨tbi_1 (i := 40) rfl rfl, tbi_1 (i := 27) rfl rfl, tbi_1 (i := 28) rfl rfl⟩
set_option maxRecDepth 100000 in
theorem numberOf_ctn {n : Nat} {m : Mem} {x : Int} : CT yX8_numberOf cX8_numberOf 1 (some .int) 1 0 0 [vI x] n m (some (vI (wI (wI (x - 97) + 1)))) n m := by
  refine CT.of (by decide +kernel) rfl (Nat.le_of_ble_eq_true rfl) (ls := [some (vI x)]) rfl fun g w C hnm => ?_
  refine j_iload_n C eX8_numberOf_0 rfl ?_
  refine j_bipush C eX8_numberOf_1 rfl ?_
  refine j_isub C eX8_numberOf_3 ?_
  refine j_iconst C eX8_numberOf_4 rfl ?_
  refine j_iadd C eX8_numberOf_5 ?_
  exact j_iret C eX8_numberOf_6 rfl (Nat.le_refl 0) (Nat.le_refl 0) rfl rfl rfl
def X8_init_L (l0 n : Nat) : Nat → Int → Int → Int → Int → MLs → Option MLs
  | 0, _, _, _, _, _ => none
  | f + 1, w0, key, le, i, L =>
    if 146 ≤ i then some L else
    if 27 ≤ w0 then some L else
    if i < 0 then none else
    if ¬ strI.getD i.toNat 0 = 32 then X8_init_L l0 n f w0 (wL (wL (key * 32) + wI (wI (strI.getD i.toNat 0 - 97) + 1))) (wI (le + 1)) (wI (i + 1)) L else
    (getCR 8 0 l0 n L).bind fun t =>
    (astCL t w0 (lshl key (wI (5 * wI (7 - le)))) n L).bind fun L1 =>
    X8_init_L l0 n f (wI (w0 + 1)) 0 0 (wI (i + 1)) L1
def X8_init (l0 n : Nat) (L : MLs) : Option (Nat × MLs) :=
  (newA 2 27 n).bind fun n1 =>
  (putCR 8 0 l0 n1 n1 L).bind fun L2 =>
  (newA 1 1601 n1).bind fun n3 =>
  (putCR 8 1 l0 n3 n3 L2).bind fun L4 =>
  (newA 1 1601 n3).bind fun n5 =>
  (putCR 8 2 l0 n5 n5 L4).bind fun L6 =>
  (newA 1 1601 n5).bind fun n7 =>
  (putCR 8 3 l0 n7 n7 L6).bind fun L8 =>
  (putC 8 4 l0 0 n7 L8).bind fun L9 =>
  (putC 8 5 l0 0 n7 L9).bind fun L10 =>
  (putC 8 6 l0 0 n7 L10).bind fun L11 =>
  (X8_init_L l0 n7 200 0 0 0 0 L11).bind fun LZ =>
  some (n7, LZ)
set_option maxRecDepth 100000 in
set_option maxHeartbeats 4000000 in
theorem X8_init_L_ok {g : Gm} {w : Wd} (C : Cx g w RX8 cX8_init 7 none) {l0 n : Nat} {out : MLs} : ∀ (f : Nat) {w0 key le i : Int} {L : MLs}, X8_init_L l0 n f w0 key le i L = some out →
    Jd g w 7 (rmL 5 4 4830) (MQ (gb g) (Qw w n (mo out) none) (ga g) (gs g) 4 4830 (aw w)) 64 [some (vR l0), some (vI w0), some (vL key), none, some (vI le), some (vI i), none] [] n (mo L) 4 4830 := by
  intro f
  induction f with
  | zero => intro w0 key le i L h; exact none_ne (α := MLs) h
  | succ f ih =>
    intro w0 key le i L h
    rw [X8_init_L] at h
    refine j_iload C dX8_init_64 rfl ?_
    refine j_ldcS C dX8_init_66 ?_
    refine j_callVS C rfl dX8_init_68 vl_X8_38 strlen_ct (Nat.le_of_ble_eq_true rfl) (Nat.le_of_ble_eq_true rfl) (Nat.le_refl _) (Nat.le_refl _) rfl rfl (Nat.le_of_ble_eq_true rfl) ?_
    refine j_icmp_ge C 144 dX8_init_71 rfl h (fun c1 h => ?_) (fun c1 h => ?_)
    · have e := Option.some.inj h
      subst e
      exact j_vret C dX8_init_144 rfl (Nat.le_refl _) (Nat.le_refl _) rfl rfl rfl
    refine j_iload_n C dX8_init_74 rfl ?_
    refine j_bipush C dX8_init_75 rfl ?_
    refine j_icmp_ge C 144 dX8_init_77 rfl h (fun c2 h => ?_) (fun c2 h => ?_)
    · have e := Option.some.inj h
      subst e
      exact j_vret C dX8_init_144 rfl (Nat.le_refl _) (Nat.le_refl _) rfl rfl rfl
    obtain ⟨c3, h⟩ := ite_none h
    refine j_ldcS C dX8_init_80 ?_
    refine j_iload C dX8_init_82 rfl ?_
    refine j_callVS C rfl dX8_init_84 vl_X8_44 (charAt_ct (by omega) (by omega)) (Nat.le_of_ble_eq_true rfl) (Nat.le_of_ble_eq_true rfl) (Nat.le_refl _) (Nat.le_refl _) rfl rfl (Nat.le_of_ble_eq_true rfl) ?_
    refine j_istore (ls' := [some (vR _), some (vI _), some (vL _), none, some (vI _), some (vI _), some (vI _)]) C dX8_init_87 (by decide) rfl ?_
    refine j_iload C dX8_init_89 rfl ?_
    refine j_bipush C dX8_init_91 rfl ?_
    refine j_icmp_ne C 122 dX8_init_93 rfl h (fun c4 h => ?_) (fun c4 h => ?_)
    · refine j_lload_n C dX8_init_122 rfl ?_
      refine j_ldc2 (v := 32) C dX8_init_123 k_X8_48 rfl rfl ?_
      refine j_lmul C dX8_init_126 ?_
      refine j_iload C dX8_init_127 rfl ?_
      refine j_callS C dX8_init_129 sl_X8_50 numberOf_ctn rfl (by decide) (Nat.le_refl _) (Nat.le_refl _) rfl rfl (Nat.le_of_ble_eq_true rfl) ?_
      refine j_i2l C dX8_init_132 ?_
      refine j_ladd C dX8_init_133 ?_
      refine j_lstore_n (ls' := [some (vR _), some (vI _), some (vL _), none, some (vI _), some (vI _), some (vI _)]) C dX8_init_134 (by decide) rfl ?_
      refine j_iinc (ls' := [some (vR _), some (vI _), some (vL _), none, some (vI _), some (vI _), some (vI _)]) C dX8_init_135 rfl (by decide) rfl ?_
      refine j_iinc (ls' := [some (vR _), some (vI _), some (vL _), none, some (vI _), some (vI _), some (vI _)]) C dX8_init_138 rfl (by decide) rfl ?_
      refine j_goto C 64 dX8_init_141 rfl ?_
      refine j_mask [true, true, true, true, true, true, false] (ls' := [some (vR _), some (vI _), some (vL _), none, some (vI _), some (vI _), none]) rfl ?_
      exact ih h
    · refine j_aload_n C dX8_init_96 rfl ?_
      refine j_getCR C dX8_init_97 CF8 (by decide) fl_X8_11 rfl h (fun t h => ?_)
      refine j_iload_n C dX8_init_100 rfl ?_
      refine j_lload_n C dX8_init_101 rfl ?_
      refine j_iconst C dX8_init_102 rfl ?_
      refine j_bipush C dX8_init_103 rfl ?_
      refine j_iload C dX8_init_105 rfl ?_
      refine j_isub C dX8_init_107 ?_
      refine j_imul C dX8_init_108 ?_
      refine j_lshl C dX8_init_109 ?_
      refine j_astCL C dX8_init_110 h (fun L1 h => ?_)
      refine j_iinc (ls' := [some (vR _), some (vI _), some (vL _), none, some (vI _), some (vI _), some (vI _)]) C dX8_init_111 rfl (by decide) rfl ?_
      refine j_lconst (v := 0) C dX8_init_114 rfl rfl ?_
      refine j_lstore_n (ls' := [some (vR _), some (vI _), some (vL _), none, some (vI _), some (vI _), some (vI _)]) C dX8_init_115 (by decide) rfl ?_
      refine j_iconst C dX8_init_116 rfl ?_
      refine j_istore (ls' := [some (vR _), some (vI _), some (vL _), none, some (vI _), some (vI _), some (vI _)]) C dX8_init_117 (by decide) rfl ?_
      refine j_goto C 138 dX8_init_119 rfl ?_
      refine j_iinc (ls' := [some (vR _), some (vI _), some (vL _), none, some (vI _), some (vI _), some (vI _)]) C dX8_init_138 rfl (by decide) rfl ?_
      refine j_goto C 64 dX8_init_141 rfl ?_
      refine j_mask [true, true, true, true, true, true, false] (ls' := [some (vR _), some (vI _), some (vL _), none, some (vI _), some (vI _), none]) rfl ?_
      exact ih h
set_option maxRecDepth 100000 in
set_option maxHeartbeats 4000000 in
theorem X8_init_ct {l0 n : Nat} {L : MLs} {out : Nat × MLs} (h : X8_init l0 n L = some out) : CT yX8_init cX8_init 7 none 5 4 4830 [vR l0] n (mo L) none out.1 (mo out.2) := by
  unfold X8_init at h
  refine CT.of (by decide +kernel) rfl (Nat.le_of_ble_eq_true rfl) (ls := [some (vR l0), none, none, none, none, none, none]) rfl fun g w C hnm => ?_
  refine j_aload_n C dX8_init_0 rfl ?_
  refine j_obj C dX8_init_1 oi_X8_3 rfl (by decide) (Nat.le_of_ble_eq_true rfl) ?_
  refine j_aload_n C dX8_init_4 rfl ?_
  refine j_bipush C dX8_init_5 rfl ?_
  refine j_newarr C 2 dX8_init_7 (Or.inr ⟨rfl, rfl⟩) acL 27 rfl (Nat.le_of_ble_eq_true rfl) (Nat.le_of_ble_eq_true rfl) h (fun h => ?_)
  refine j_putCR C dX8_init_9 CF8 (by decide) fl_X8_11 rfl (Or.inr ⟨_, rfl⟩) (Or.inr ⟨rfl, hnm, rfl⟩) h (fun L2 h => ?_)
  refine j_aload_n C dX8_init_12 rfl ?_
  refine j_sipush C dX8_init_13 rfl ?_
  refine j_newarr C 1 dX8_init_16 (Or.inl ⟨rfl, rfl⟩) acI 1601 rfl (Nat.le_of_ble_eq_true rfl) (Nat.le_of_ble_eq_true rfl) h (fun h => ?_)
  refine j_putCR C dX8_init_18 CF8 (by decide) fl_X8_15 rfl (Or.inr ⟨_, rfl⟩) (Or.inr ⟨rfl, hnm, rfl⟩) h (fun L4 h => ?_)
  refine j_aload_n C dX8_init_21 rfl ?_
  refine j_sipush C dX8_init_22 rfl ?_
  refine j_newarr C 1 dX8_init_25 (Or.inl ⟨rfl, rfl⟩) acI 1601 rfl (Nat.le_of_ble_eq_true rfl) (Nat.le_of_ble_eq_true rfl) h (fun h => ?_)
  refine j_putCR C dX8_init_27 CF8 (by decide) fl_X8_19 rfl (Or.inr ⟨_, rfl⟩) (Or.inr ⟨rfl, hnm, rfl⟩) h (fun L6 h => ?_)
  refine j_aload_n C dX8_init_30 rfl ?_
  refine j_sipush C dX8_init_31 rfl ?_
  refine j_newarr C 1 dX8_init_34 (Or.inl ⟨rfl, rfl⟩) acI 1601 rfl (Nat.le_of_ble_eq_true rfl) (Nat.le_of_ble_eq_true rfl) h (fun h => ?_)
  refine j_putCR C dX8_init_36 CF8 (by decide) fl_X8_22 rfl (Or.inr ⟨_, rfl⟩) (Or.inr ⟨rfl, hnm, rfl⟩) h (fun L8 h => ?_)
  refine j_aload_n C dX8_init_39 rfl ?_
  refine j_iconst C dX8_init_40 rfl ?_
  refine j_putCI C dX8_init_41 CF8 (by decide) fl_X8_25 rfl ⟨rfl, rfl⟩ (Or.inl rfl) h (fun L9 h => ?_)
  refine j_aload_n C dX8_init_44 rfl ?_
  refine j_iconst C dX8_init_45 rfl ?_
  refine j_putCI C dX8_init_46 CF8 (by decide) fl_X8_29 rfl ⟨rfl, rfl⟩ (Or.inl rfl) h (fun L10 h => ?_)
  refine j_aload_n C dX8_init_49 rfl ?_
  refine j_iconst C dX8_init_50 rfl ?_
  refine j_putCI C dX8_init_51 CF8 (by decide) fl_X8_32 rfl ⟨rfl, rfl⟩ (Or.inl rfl) h (fun L11 h => ?_)
  obtain ⟨LZ, eZ, h⟩ := bind_some h
  have e := Option.some.inj h
  subst e
  refine j_iconst C dX8_init_54 rfl ?_
  refine j_istore_n (ls' := [some (vR _), some (vI _), none, none, none, none, none]) C dX8_init_55 (by decide) rfl ?_
  refine j_lconst (v := 0) C dX8_init_56 rfl rfl ?_
  refine j_lstore_n (ls' := [some (vR _), some (vI _), some (vL _), none, none, none, none]) C dX8_init_57 (by decide) rfl ?_
  refine j_iconst C dX8_init_58 rfl ?_
  refine j_istore (ls' := [some (vR _), some (vI _), some (vL _), none, some (vI _), none, none]) C dX8_init_59 (by decide) rfl ?_
  refine j_iconst C dX8_init_61 rfl ?_
  refine j_istore (ls' := [some (vR _), some (vI _), some (vL _), none, some (vI _), some (vI _), none]) C dX8_init_62 (by decide) rfl ?_
  exact X8_init_L_ok C 200 eZ
