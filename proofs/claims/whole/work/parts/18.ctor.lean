theorem oi_X6_3 : Cond.methodLink RX6 3 Lib.objectInit ∈ tb ∧ Cond.instanceMethod Lib.objectInit ∈ tb ∧ Cond.code Lib.objectInit ⟨#[0xb1]⟩ 1 none ∈ tb := ⟨tbi_1 (i := 34) rfl rfl, tbi_1 (i := 27) rfl rfl, tbi_1 (i := 28) rfl rfl⟩
theorem cl_X6_9 : Cond.classLink RX6 9 RX8 ∈ tb := tbi_1 (i := 35) rfl rfl
theorem il_X6_11 : IL RX6 11 yX8_init cX8_init 7 := ⟨tbi_1 (i := 37) rfl rfl, tbi_1 (i := 38) rfl rfl, tbi_1 (i := 3) rfl rfl, tbi_1 (i := 39) rfl rfl, ⟨by decide +kernel, by decide +kernel, by decide +kernel⟩, by decide, rfl⟩
theorem oi_X10_1 : Cond.methodLink RX10 1 Lib.objectInit ∈ tb ∧ Cond.instanceMethod Lib.objectInit ∈ tb ∧ Cond.code Lib.objectInit ⟨#[0xb1]⟩ 1 none ∈ tb := ⟨tbi_1 (i := 26) rfl rfl, tbi_1 (i := 27) rfl rfl, tbi_1 (i := 28) rfl rfl⟩
theorem cl_X10_17 : Cond.classLink RX10 17 RX6 ∈ tb := tbi_1 (i := 29) rfl rfl
theorem inl_X10_19 : INL RX10 19 yX6_init "DewBaron" cX6_init 1 := ⟨xni_1 (i := 31) rfl rfl, tbi_1 (i := 32) rfl rfl, tbi_1 (i := 2) rfl rfl, tbi_1 (i := 33) rfl rfl, ⟨by decide +kernel, by decide +kernel, by decide +kernel⟩, by decide, rfl⟩
theorem cl_X10_24 : Cond.classLink RX10 24 RX5 ∈ tb := tbi_1 (i := 155) rfl rfl
theorem inl_X10_26 : INL RX10 26 yX5_init "DewBaron" cX5_init 1 := ⟨xni_1 (i := 157) rfl rfl, tbi_1 (i := 158) rfl rfl, tbi_1 (i := 8) rfl rfl, tbi_1 (i := 159) rfl rfl, ⟨by decide +kernel, by decide +kernel, by decide +kernel⟩, by decide, rfl⟩
theorem cl_X10_34 : Cond.classLink RX10 34 RX1 ∈ tb := tbi_2 (i := 79) rfl rfl
theorem inl_X10_36 : INL RX10 36 yX1_init "DewBaron" cX1_init 1 := ⟨xni_2 (i := 80) rfl rfl, tbi_1 (i := 166) rfl rfl, tbi_1 (i := 9) rfl rfl, tbi_1 (i := 167) rfl rfl, ⟨by decide +kernel, by decide +kernel, by decide +kernel⟩, by decide, rfl⟩
theorem cl_X10_44 : Cond.classLink RX10 44 RX4 ∈ tb := tbi_2 (i := 81) rfl rfl
theorem il_X10_46 : IL RX10 46 yX4_init cX4_init 2 := ⟨tbi_2 (i := 83) rfl rfl, tbi_2 (i := 84) rfl rfl, tbi_1 (i := 11) rfl rfl, tbi_2 (i := 85) rfl rfl, ⟨by decide +kernel, by decide +kernel, by decide +kernel⟩, by decide, rfl⟩
theorem cl_X10_54 : Cond.classLink RX10 54 RX3 ∈ tb := tbi_2 (i := 101) rfl rfl
theorem inl_X10_56 : INL RX10 56 yX3_init "DewBaron" cX3_init 1 := ⟨xni_2 (i := 103) rfl rfl, tbi_2 (i := 104) rfl rfl, tbi_1 (i := 12) rfl rfl, tbi_2 (i := 105) rfl rfl, ⟨by decide +kernel, by decide +kernel, by decide +kernel⟩, by decide, rfl⟩
theorem cl_X10_71 : Cond.classLink RX10 71 RX9 ∈ tb := tbi_2 (i := 142) rfl rfl
theorem inl_X10_73 : INL RX10 73 yX9_init "DewBaron" cX9_init 1 := ⟨xni_2 (i := 144) rfl rfl, tbi_2 (i := 145) rfl rfl, tbi_1 (i := 13) rfl rfl, tbi_2 (i := 146) rfl rfl, ⟨by decide +kernel, by decide +kernel, by decide +kernel⟩, by decide, rfl⟩
theorem cl_X10_78 : Cond.classLink RX10 78 RX0 ∈ tb := tbi_2 (i := 164) rfl rfl
theorem inl_X10_80 : INL RX10 80 yX0_init "DewBaron" cX0_init 1 := ⟨xni_2 (i := 166) rfl rfl, tbi_2 (i := 167) rfl rfl, tbi_1 (i := 14) rfl rfl, tbi_2 (i := 168) rfl rfl, ⟨by decide +kernel, by decide +kernel, by decide +kernel⟩, by decide, rfl⟩
theorem cl_X10_85 : Cond.classLink RX10 85 RX2 ∈ tb := tbi_2 (i := 204) rfl rfl
theorem inl_X10_87 : INL RX10 87 yX2_init "DewBaron" cX2_init 1 := ⟨xni_2 (i := 206) rfl rfl, tbi_2 (i := 207) rfl rfl, tbi_1 (i := 15) rfl rfl, tbi_2 (i := 208) rfl rfl, ⟨by decide +kernel, by decide +kernel, by decide +kernel⟩, by decide, rfl⟩
theorem oi_X11_1 : Cond.methodLink RX11 1 Lib.objectInit ∈ tb ∧ Cond.instanceMethod Lib.objectInit ∈ tb ∧ Cond.code Lib.objectInit ⟨#[0xb1]⟩ 1 none ∈ tb := ⟨tbi_6 (i := 111) rfl rfl, tbi_1 (i := 27) rfl rfl, tbi_1 (i := 28) rfl rfl⟩
theorem dX6_init_0 : decode cX6_init 0 = .ok (.aload_n 0, 1) := by decide +kernel
theorem dX6_init_1 : decode cX6_init 1 = .ok (.invokespecial 3, 3) := by decide +kernel
theorem dX6_init_4 : decode cX6_init 4 = .ok (.aload_n 0, 1) := by decide +kernel
theorem dX6_init_5 : decode cX6_init 5 = .ok (.new 9, 3) := by decide +kernel
theorem dX6_init_8 : decode cX6_init 8 = .ok (.dup, 1) := by decide +kernel
theorem dX6_init_9 : decode cX6_init 9 = .ok (.invokespecial 11, 3) := by decide +kernel
theorem dX6_init_12 : decode cX6_init 12 = .ok (.putfield 12, 3) := by decide +kernel
theorem dX6_init_15 : decode cX6_init 15 = .ok (.aload_n 0, 1) := by decide +kernel
theorem dX6_init_16 : decode cX6_init 16 = .ok (.iconst 0, 1) := by decide +kernel
theorem dX6_init_17 : decode cX6_init 17 = .ok (.putfield 18, 3) := by decide +kernel
theorem dX6_init_20 : decode cX6_init 20 = .ok (.aload_n 0, 1) := by decide +kernel
theorem dX6_init_21 : decode cX6_init 21 = .ok (.iconst 0, 1) := by decide +kernel
theorem dX6_init_22 : decode cX6_init 22 = .ok (.putfield 22, 3) := by decide +kernel
theorem dX6_init_25 : decode cX6_init 25 = .ok (.aload_n 0, 1) := by decide +kernel
theorem dX6_init_26 : decode cX6_init 26 = .ok (.iconst 0, 1) := by decide +kernel
theorem dX6_init_27 : decode cX6_init 27 = .ok (.putfield 25, 3) := by decide +kernel
theorem dX6_init_30 : decode cX6_init 30 = .ok (.aload_n 0, 1) := by decide +kernel
theorem dX6_init_31 : decode cX6_init 31 = .ok (.iconst 0, 1) := by decide +kernel
theorem dX6_init_32 : decode cX6_init 32 = .ok (.putfield 28, 3) := by decide +kernel
theorem dX6_init_35 : decode cX6_init 35 = .ok (.aload_n 0, 1) := by decide +kernel
theorem dX6_init_36 : decode cX6_init 36 = .ok (.iconst 0, 1) := by decide +kernel
theorem dX6_init_37 : decode cX6_init 37 = .ok (.putfield 31, 3) := by decide +kernel
theorem dX6_init_40 : decode cX6_init 40 = .ok (.aload_n 0, 1) := by decide +kernel
theorem dX6_init_41 : decode cX6_init 41 = .ok (.iconst 0, 1) := by decide +kernel
theorem dX6_init_42 : decode cX6_init 42 = .ok (.putfield 34, 3) := by decide +kernel
theorem dX6_init_45 : decode cX6_init 45 = .ok (.aload_n 0, 1) := by decide +kernel
theorem dX6_init_46 : decode cX6_init 46 = .ok (.iconst 0, 1) := by decide +kernel
theorem dX6_init_47 : decode cX6_init 47 = .ok (.putfield 37, 3) := by decide +kernel
theorem dX6_init_50 : decode cX6_init 50 = .ok (.aload_n 0, 1) := by decide +kernel
theorem dX6_init_51 : decode cX6_init 51 = .ok (.iconst 0, 1) := by decide +kernel
theorem dX6_init_52 : decode cX6_init 52 = .ok (.putfield 40, 3) := by decide +kernel
theorem dX6_init_55 : decode cX6_init 55 = .ok (.aload_n 0, 1) := by decide +kernel
theorem dX6_init_56 : decode cX6_init 56 = .ok (.iconst 0, 1) := by decide +kernel
theorem dX6_init_57 : decode cX6_init 57 = .ok (.putfield 43, 3) := by decide +kernel
theorem dX6_init_60 : decode cX6_init 60 = .ok (.aload_n 0, 1) := by decide +kernel
theorem dX6_init_61 : decode cX6_init 61 = .ok (.iconst (-1), 1) := by decide +kernel
theorem dX6_init_62 : decode cX6_init 62 = .ok (.putfield 46, 3) := by decide +kernel
theorem dX6_init_65 : decode cX6_init 65 = .ok (.aload_n 0, 1) := by decide +kernel
theorem dX6_init_66 : decode cX6_init 66 = .ok (.iconst 0, 1) := by decide +kernel
theorem dX6_init_67 : decode cX6_init 67 = .ok (.putfield 49, 3) := by decide +kernel
theorem dX6_init_70 : decode cX6_init 70 = .ok (.return_, 1) := by decide +kernel
def X6_init (l0 n : Nat) (L : MLs) : Option (Nat × MLs) :=
  (newO 8 5 n).bind fun n1 =>
  (X8_init n1 n1 L).bind fun p2 =>
  (putCR 6 0 l0 n1 p2.1 p2.2).bind fun L3 =>
  (putC 6 1 l0 0 p2.1 L3).bind fun L4 =>
  (putC 6 2 l0 0 p2.1 L4).bind fun L5 =>
  (putC 6 3 l0 0 p2.1 L5).bind fun L6 =>
  (putC 6 4 l0 0 p2.1 L6).bind fun L7 =>
  (putC 6 5 l0 0 p2.1 L7).bind fun L8 =>
  (putC 6 6 l0 0 p2.1 L8).bind fun L9 =>
  (putC 6 7 l0 0 p2.1 L9).bind fun L10 =>
  (putC 6 8 l0 0 p2.1 L10).bind fun L11 =>
  (putC 6 9 l0 0 p2.1 L11).bind fun L12 =>
  (putC 6 10 l0 (-1) p2.1 L12).bind fun L13 =>
  (putC 6 11 l0 0 p2.1 L13).bind fun L14 =>
  some (p2.1, L14)
set_option maxRecDepth 100000 in
set_option maxHeartbeats 4000000 in
theorem X6_init_ct {l0 n : Nat} {L : MLs} {out : Nat × MLs} (h : X6_init l0 n L = some out) : CT yX6_init cX6_init 1 none 6 3 1633 [vR l0] n (mo L) none out.1 (mo out.2) := by
  unfold X6_init at h
  refine CT.of (by decide +kernel) rfl (Nat.le_of_ble_eq_true rfl) (ls := [some (vR l0)]) rfl fun g w C hnm => ?_
  refine j_aload_n C dX6_init_0 rfl ?_
  refine j_obj C dX6_init_1 oi_X6_3 rfl (by decide) (Nat.le_of_ble_eq_true rfl) ?_
  refine j_aload_n C dX6_init_4 rfl ?_
  refine j_new C dX6_init_5 CF8 cl_X6_9 (tbi_1 (i := 36) rfl rfl) (tbi_1 (i := 3) rfl rfl) df8 (Nat.le_of_ble_eq_true rfl) (Nat.le_of_ble_eq_true rfl) h (fun n1 h => ?_)
  refine j_dup C dX6_init_8 rfl ?_
  obtain ⟨p2, ep2, h⟩ := bind_some h
  have qp2 := X8_init_ct ep2
  refine j_callI C dX6_init_9 il_X6_11 qp2 (Nat.le_of_ble_eq_true rfl) (Nat.le_of_ble_eq_true rfl) (Nat.le_of_ble_eq_true rfl) (Nat.le_of_ble_eq_true rfl) (Nat.le_of_ble_eq_true rfl) ?_
  refine j_putCR C dX6_init_12 CF6 (by decide) fl_X6_12 rfl (Or.inl ⟨_, rfl⟩) (Or.inr ⟨rfl, hnm, rfl⟩) h (fun L3 h => ?_)
  refine j_aload_n C dX6_init_15 rfl ?_
  refine j_iconst C dX6_init_16 rfl ?_
  refine j_putCI C dX6_init_17 CF6 (by decide) fl_X6_18 rfl ⟨rfl, rfl⟩ (Or.inl rfl) h (fun L4 h => ?_)
  refine j_aload_n C dX6_init_20 rfl ?_
  refine j_iconst C dX6_init_21 rfl ?_
  refine j_putCI C dX6_init_22 CF6 (by decide) fl_X6_22 rfl ⟨rfl, rfl⟩ (Or.inl rfl) h (fun L5 h => ?_)
  refine j_aload_n C dX6_init_25 rfl ?_
  refine j_iconst C dX6_init_26 rfl ?_
  refine j_putCI C dX6_init_27 CF6 (by decide) fl_X6_25 rfl ⟨rfl, rfl⟩ (Or.inl rfl) h (fun L6 h => ?_)
  refine j_aload_n C dX6_init_30 rfl ?_
  refine j_iconst C dX6_init_31 rfl ?_
  refine j_putCI C dX6_init_32 CF6 (by decide) fl_X6_28 rfl ⟨rfl, rfl⟩ (Or.inl rfl) h (fun L7 h => ?_)
  refine j_aload_n C dX6_init_35 rfl ?_
  refine j_iconst C dX6_init_36 rfl ?_
  refine j_putCI C dX6_init_37 CF6 (by decide) fl_X6_31 rfl ⟨rfl, rfl⟩ (Or.inl rfl) h (fun L8 h => ?_)
  refine j_aload_n C dX6_init_40 rfl ?_
  refine j_iconst C dX6_init_41 rfl ?_
  refine j_putCI C dX6_init_42 CF6 (by decide) fl_X6_34 rfl ⟨rfl, rfl⟩ (Or.inl rfl) h (fun L9 h => ?_)
  refine j_aload_n C dX6_init_45 rfl ?_
  refine j_iconst C dX6_init_46 rfl ?_
  refine j_putCI C dX6_init_47 CF6 (by decide) fl_X6_37 rfl ⟨rfl, rfl⟩ (Or.inl rfl) h (fun L10 h => ?_)
  refine j_aload_n C dX6_init_50 rfl ?_
  refine j_iconst C dX6_init_51 rfl ?_
  refine j_putCI C dX6_init_52 CF6 (by decide) fl_X6_40 rfl ⟨rfl, rfl⟩ (Or.inl rfl) h (fun L11 h => ?_)
  refine j_aload_n C dX6_init_55 rfl ?_
  refine j_iconst C dX6_init_56 rfl ?_
  refine j_putCI C dX6_init_57 CF6 (by decide) fl_X6_43 rfl ⟨rfl, rfl⟩ (Or.inl rfl) h (fun L12 h => ?_)
  refine j_aload_n C dX6_init_60 rfl ?_
  refine j_iconst C dX6_init_61 rfl ?_
  refine j_putCI C dX6_init_62 CF6 (by decide) fl_X6_46 rfl ⟨rfl, rfl⟩ (Or.inl rfl) h (fun L13 h => ?_)
  refine j_aload_n C dX6_init_65 rfl ?_
  refine j_iconst C dX6_init_66 rfl ?_
  refine j_putCI C dX6_init_67 CF6 (by decide) fl_X6_49 rfl ⟨rfl, rfl⟩ (Or.inl rfl) h (fun L14 h => ?_)
  have e := Option.some.inj h
  subst e
  exact j_vret C dX6_init_70 rfl (Nat.le_of_ble_eq_true rfl) (Nat.le_of_ble_eq_true rfl) rfl rfl rfl
theorem dX10_init_0 : decode cX10_init 0 = .ok (.aload_n 0, 1) := by decide +kernel
theorem dX10_init_1 : decode cX10_init 1 = .ok (.invokespecial 1, 3) := by decide +kernel
theorem dX10_init_4 : decode cX10_init 4 = .ok (.aload_n 0, 1) := by decide +kernel
theorem dX10_init_5 : decode cX10_init 5 = .ok (.sipush 1600, 3) := by decide +kernel
theorem dX10_init_8 : decode cX10_init 8 = .ok (.newarray .int, 2) := by decide +kernel
theorem dX10_init_10 : decode cX10_init 10 = .ok (.putfield 9, 3) := by decide +kernel
theorem dX10_init_13 : decode cX10_init 13 = .ok (.aload_n 0, 1) := by decide +kernel
theorem dX10_init_14 : decode cX10_init 14 = .ok (.iconst 0, 1) := by decide +kernel
theorem dX10_init_15 : decode cX10_init 15 = .ok (.putfield 13, 3) := by decide +kernel
theorem dX10_init_18 : decode cX10_init 18 = .ok (.aload_n 0, 1) := by decide +kernel
theorem dX10_init_19 : decode cX10_init 19 = .ok (.new 17, 3) := by decide +kernel
theorem dX10_init_22 : decode cX10_init 22 = .ok (.dup, 1) := by decide +kernel
theorem dX10_init_23 : decode cX10_init 23 = .ok (.invokespecial 19, 3) := by decide +kernel
theorem dX10_init_26 : decode cX10_init 26 = .ok (.putfield 20, 3) := by decide +kernel
theorem dX10_init_29 : decode cX10_init 29 = .ok (.aload_n 0, 1) := by decide +kernel
theorem dX10_init_30 : decode cX10_init 30 = .ok (.new 24, 3) := by decide +kernel
theorem dX10_init_33 : decode cX10_init 33 = .ok (.dup, 1) := by decide +kernel
theorem dX10_init_34 : decode cX10_init 34 = .ok (.invokespecial 26, 3) := by decide +kernel
theorem dX10_init_37 : decode cX10_init 37 = .ok (.putfield 27, 3) := by decide +kernel
theorem dX10_init_40 : decode cX10_init 40 = .ok (.aload_n 0, 1) := by decide +kernel
theorem dX10_init_41 : decode cX10_init 41 = .ok (.new 24, 3) := by decide +kernel
theorem dX10_init_44 : decode cX10_init 44 = .ok (.dup, 1) := by decide +kernel
theorem dX10_init_45 : decode cX10_init 45 = .ok (.invokespecial 26, 3) := by decide +kernel
theorem dX10_init_48 : decode cX10_init 48 = .ok (.putfield 31, 3) := by decide +kernel
theorem dX10_init_51 : decode cX10_init 51 = .ok (.aload_n 0, 1) := by decide +kernel
theorem dX10_init_52 : decode cX10_init 52 = .ok (.new 34, 3) := by decide +kernel
theorem dX10_init_55 : decode cX10_init 55 = .ok (.dup, 1) := by decide +kernel
theorem dX10_init_56 : decode cX10_init 56 = .ok (.invokespecial 36, 3) := by decide +kernel
theorem dX10_init_59 : decode cX10_init 59 = .ok (.putfield 37, 3) := by decide +kernel
theorem dX10_init_62 : decode cX10_init 62 = .ok (.aload_n 0, 1) := by decide +kernel
theorem dX10_init_63 : decode cX10_init 63 = .ok (.new 34, 3) := by decide +kernel
theorem dX10_init_66 : decode cX10_init 66 = .ok (.dup, 1) := by decide +kernel
theorem dX10_init_67 : decode cX10_init 67 = .ok (.invokespecial 36, 3) := by decide +kernel
theorem dX10_init_70 : decode cX10_init 70 = .ok (.putfield 41, 3) := by decide +kernel
theorem dX10_init_73 : decode cX10_init 73 = .ok (.aload_n 0, 1) := by decide +kernel
theorem dX10_init_74 : decode cX10_init 74 = .ok (.new 44, 3) := by decide +kernel
theorem dX10_init_77 : decode cX10_init 77 = .ok (.dup, 1) := by decide +kernel
theorem dX10_init_78 : decode cX10_init 78 = .ok (.invokespecial 46, 3) := by decide +kernel
theorem dX10_init_81 : decode cX10_init 81 = .ok (.putfield 47, 3) := by decide +kernel
theorem dX10_init_84 : decode cX10_init 84 = .ok (.aload_n 0, 1) := by decide +kernel
theorem dX10_init_85 : decode cX10_init 85 = .ok (.iconst 1, 1) := by decide +kernel
theorem dX10_init_86 : decode cX10_init 86 = .ok (.putfield 51, 3) := by decide +kernel
theorem dX10_init_89 : decode cX10_init 89 = .ok (.aload_n 0, 1) := by decide +kernel
theorem dX10_init_90 : decode cX10_init 90 = .ok (.new 54, 3) := by decide +kernel
theorem dX10_init_93 : decode cX10_init 93 = .ok (.dup, 1) := by decide +kernel
theorem dX10_init_94 : decode cX10_init 94 = .ok (.invokespecial 56, 3) := by decide +kernel
theorem dX10_init_97 : decode cX10_init 97 = .ok (.putfield 57, 3) := by decide +kernel
theorem dX10_init_100 : decode cX10_init 100 = .ok (.aload_n 0, 1) := by decide +kernel
theorem dX10_init_101 : decode cX10_init 101 = .ok (.new 54, 3) := by decide +kernel
theorem dX10_init_104 : decode cX10_init 104 = .ok (.dup, 1) := by decide +kernel
theorem dX10_init_105 : decode cX10_init 105 = .ok (.invokespecial 56, 3) := by decide +kernel
theorem dX10_init_108 : decode cX10_init 108 = .ok (.putfield 61, 3) := by decide +kernel
theorem dX10_init_111 : decode cX10_init 111 = .ok (.aload_n 0, 1) := by decide +kernel
theorem dX10_init_112 : decode cX10_init 112 = .ok (.bipush 13, 2) := by decide +kernel
theorem dX10_init_114 : decode cX10_init 114 = .ok (.newarray .int, 2) := by decide +kernel
theorem dX10_init_116 : decode cX10_init 116 = .ok (.putfield 64, 3) := by decide +kernel
theorem dX10_init_119 : decode cX10_init 119 = .ok (.aload_n 0, 1) := by decide +kernel
theorem dX10_init_120 : decode cX10_init 120 = .ok (.iconst 1, 1) := by decide +kernel
theorem dX10_init_121 : decode cX10_init 121 = .ok (.putfield 67, 3) := by decide +kernel
theorem dX10_init_124 : decode cX10_init 124 = .ok (.aload_n 0, 1) := by decide +kernel
theorem dX10_init_125 : decode cX10_init 125 = .ok (.new 71, 3) := by decide +kernel
theorem dX10_init_128 : decode cX10_init 128 = .ok (.dup, 1) := by decide +kernel
theorem dX10_init_129 : decode cX10_init 129 = .ok (.invokespecial 73, 3) := by decide +kernel
theorem dX10_init_132 : decode cX10_init 132 = .ok (.putfield 74, 3) := by decide +kernel
theorem dX10_init_135 : decode cX10_init 135 = .ok (.aload_n 0, 1) := by decide +kernel
theorem dX10_init_136 : decode cX10_init 136 = .ok (.new 78, 3) := by decide +kernel
theorem dX10_init_139 : decode cX10_init 139 = .ok (.dup, 1) := by decide +kernel
theorem dX10_init_140 : decode cX10_init 140 = .ok (.invokespecial 80, 3) := by decide +kernel
theorem dX10_init_143 : decode cX10_init 143 = .ok (.putfield 81, 3) := by decide +kernel
theorem dX10_init_146 : decode cX10_init 146 = .ok (.aload_n 0, 1) := by decide +kernel
theorem dX10_init_147 : decode cX10_init 147 = .ok (.new 85, 3) := by decide +kernel
theorem dX10_init_150 : decode cX10_init 150 = .ok (.dup, 1) := by decide +kernel
theorem dX10_init_151 : decode cX10_init 151 = .ok (.invokespecial 87, 3) := by decide +kernel
theorem dX10_init_154 : decode cX10_init 154 = .ok (.putfield 88, 3) := by decide +kernel
theorem dX10_init_157 : decode cX10_init 157 = .ok (.aload_n 0, 1) := by decide +kernel
theorem dX10_init_158 : decode cX10_init 158 = .ok (.bipush 65, 2) := by decide +kernel
theorem dX10_init_160 : decode cX10_init 160 = .ok (.newarray .int, 2) := by decide +kernel
theorem dX10_init_162 : decode cX10_init 162 = .ok (.putfield 92, 3) := by decide +kernel
theorem dX10_init_165 : decode cX10_init 165 = .ok (.aload_n 0, 1) := by decide +kernel
theorem dX10_init_166 : decode cX10_init 166 = .ok (.iconst 0, 1) := by decide +kernel
theorem dX10_init_167 : decode cX10_init 167 = .ok (.putfield 95, 3) := by decide +kernel
theorem dX10_init_170 : decode cX10_init 170 = .ok (.aload_n 0, 1) := by decide +kernel
theorem dX10_init_171 : decode cX10_init 171 = .ok (.bipush 6, 2) := by decide +kernel
theorem dX10_init_173 : decode cX10_init 173 = .ok (.newarray .int, 2) := by decide +kernel
theorem dX10_init_175 : decode cX10_init 175 = .ok (.putfield 98, 3) := by decide +kernel
theorem dX10_init_178 : decode cX10_init 178 = .ok (.return_, 1) := by decide +kernel
def X10_init (l0 n : Nat) (L : MLs) : Option (Nat × MLs) :=
  (newA 1 1600 n).bind fun n1 =>
  (putCR 10 0 l0 n1 n1 L).bind fun L2 =>
  (putC 10 1 l0 0 n1 L2).bind fun L3 =>
  (newO 6 12 n1).bind fun n4 =>
  (X6_init n4 n4 L3).bind fun p5 =>
  (putCR 10 2 l0 n4 p5.1 p5.2).bind fun L6 =>
  (newO 5 20 p5.1).bind fun n7 =>
  (X5_init n7 n7 L6).bind fun p8 =>
  (putCR 10 3 l0 n7 p8.1 p8.2).bind fun L9 =>
  (newO 5 20 p8.1).bind fun n10 =>
  (X5_init n10 n10 L9).bind fun p11 =>
  (putCR 10 4 l0 n10 p11.1 p11.2).bind fun L12 =>
  (newO 1 4 p11.1).bind fun n13 =>
  (X1_init n13 n13 L12).bind fun p14 =>
  (putCR 10 5 l0 n13 p14.1 p14.2).bind fun L15 =>
  (newO 1 4 p14.1).bind fun n16 =>
  (X1_init n16 n16 L15).bind fun p17 =>
  (putCR 10 6 l0 n16 p17.1 p17.2).bind fun L18 =>
  (newO 4 3 p17.1).bind fun n19 =>
  (X4_init n19 n19 L18).bind fun p20 =>
  (putCR 10 7 l0 n19 p20.1 p20.2).bind fun L21 =>
  (putC 10 8 l0 1 p20.1 L21).bind fun L22 =>
  (newO 3 9 p20.1).bind fun n23 =>
  (X3_init n23 n23 L22).bind fun p24 =>
  (putCR 10 9 l0 n23 p24.1 p24.2).bind fun L25 =>
  (newO 3 9 p24.1).bind fun n26 =>
  (X3_init n26 n26 L25).bind fun p27 =>
  (putCR 10 10 l0 n26 p27.1 p27.2).bind fun L28 =>
  (newA 1 13 p27.1).bind fun n29 =>
  (putCR 10 11 l0 n29 n29 L28).bind fun L30 =>
  (putC 10 12 l0 1 n29 L30).bind fun L31 =>
  (newO 9 5 n29).bind fun n32 =>
  (X9_init n32 n32 L31).bind fun p33 =>
  (putCR 10 13 l0 n32 p33.1 p33.2).bind fun L34 =>
  (newO 0 10 p33.1).bind fun n35 =>
  (X0_init n35 n35 L34).bind fun p36 =>
  (putCR 10 14 l0 n35 p36.1 p36.2).bind fun L37 =>
  (newO 2 5 p36.1).bind fun n38 =>
  (X2_init n38 n38 L37).bind fun p39 =>
  (putCR 10 15 l0 n38 p39.1 p39.2).bind fun L40 =>
  (newA 1 65 p39.1).bind fun n41 =>
  (putCR 10 16 l0 n41 n41 L40).bind fun L42 =>
  (putC 10 17 l0 0 n41 L42).bind fun L43 =>
  (newA 1 6 n41).bind fun n44 =>
  (putCR 10 18 l0 n44 n44 L43).bind fun L45 =>
  some (n44, L45)
set_option maxRecDepth 100000 in
set_option maxHeartbeats 4000000 in
theorem X10_init_ct {l0 n : Nat} {L : MLs} {out : Nat × MLs} (h : X10_init l0 n L = some out) : CT yX10_init cX10_init 1 none 7 256 10649 [vR l0] n (mo L) none out.1 (mo out.2) := by
  unfold X10_init at h
  refine CT.of (by decide +kernel) rfl (Nat.le_of_ble_eq_true rfl) (ls := [some (vR l0)]) rfl fun g w C hnm => ?_
  refine j_aload_n C dX10_init_0 rfl ?_
  refine j_obj C dX10_init_1 oi_X10_1 rfl (by decide) (Nat.le_of_ble_eq_true rfl) ?_
  refine j_aload_n C dX10_init_4 rfl ?_
  refine j_sipush C dX10_init_5 rfl ?_
  refine j_newarr C 1 dX10_init_8 (Or.inl ⟨rfl, rfl⟩) acI 1600 rfl (Nat.le_of_ble_eq_true rfl) (Nat.le_of_ble_eq_true rfl) h (fun n1 h => ?_)
  refine j_putCR C dX10_init_10 CF10 (by decide) fl_X10_9 rfl (Or.inr ⟨_, rfl⟩) (Or.inr ⟨rfl, hnm, rfl⟩) h (fun L2 h => ?_)
  refine j_aload_n C dX10_init_13 rfl ?_
  refine j_iconst C dX10_init_14 rfl ?_
  refine j_putCI C dX10_init_15 CF10 (by decide) fl_X10_13 rfl ⟨rfl, rfl⟩ (Or.inl rfl) h (fun L3 h => ?_)
  refine j_aload_n C dX10_init_18 rfl ?_
  refine j_new C dX10_init_19 CF6 cl_X10_17 (tbi_1 (i := 30) rfl rfl) (tbi_1 (i := 2) rfl rfl) df6 (Nat.le_of_ble_eq_true rfl) (Nat.le_of_ble_eq_true rfl) h (fun n4 h => ?_)
  refine j_dup C dX10_init_22 rfl ?_
  obtain ⟨p5, ep5, h⟩ := bind_some h
  have qp5 := X6_init_ct ep5
  refine j_callIN C dX10_init_23 inl_X10_19 qp5 (Nat.le_of_ble_eq_true rfl) (Nat.le_of_ble_eq_true rfl) (Nat.le_of_ble_eq_true rfl) (Nat.le_of_ble_eq_true rfl) (Nat.le_of_ble_eq_true rfl) ?_
  refine j_putCR C dX10_init_26 CF10 (by decide) fl_X10_20 rfl (Or.inl ⟨_, rfl⟩) (Or.inr ⟨rfl, hnm, rfl⟩) h (fun L6 h => ?_)
  refine j_aload_n C dX10_init_29 rfl ?_
  refine j_new C dX10_init_30 CF5 cl_X10_24 (tbi_1 (i := 156) rfl rfl) (tbi_1 (i := 8) rfl rfl) df5 (Nat.le_of_ble_eq_true rfl) (Nat.le_of_ble_eq_true rfl) h (fun n7 h => ?_)
  refine j_dup C dX10_init_33 rfl ?_
  obtain ⟨p8, ep8, h⟩ := bind_some h
  have qp8 := X5_init_ct ep8
  refine j_callIN C dX10_init_34 inl_X10_26 qp8 (Nat.le_of_ble_eq_true rfl) (Nat.le_of_ble_eq_true rfl) (Nat.le_of_ble_eq_true rfl) (Nat.le_of_ble_eq_true rfl) (Nat.le_of_ble_eq_true rfl) ?_
  refine j_putCR C dX10_init_37 CF10 (by decide) fl_X10_27 rfl (Or.inl ⟨_, rfl⟩) (Or.inl rfl) h (fun L9 h => ?_)
  refine j_aload_n C dX10_init_40 rfl ?_
  refine j_new C dX10_init_41 CF5 cl_X10_24 (tbi_1 (i := 156) rfl rfl) (tbi_1 (i := 8) rfl rfl) df5 (Nat.le_of_ble_eq_true rfl) (Nat.le_of_ble_eq_true rfl) h (fun n10 h => ?_)
  refine j_dup C dX10_init_44 rfl ?_
  obtain ⟨p11, ep11, h⟩ := bind_some h
  have qp11 := X5_init_ct ep11
  refine j_callIN C dX10_init_45 inl_X10_26 qp11 (Nat.le_of_ble_eq_true rfl) (Nat.le_of_ble_eq_true rfl) (Nat.le_of_ble_eq_true rfl) (Nat.le_of_ble_eq_true rfl) (Nat.le_of_ble_eq_true rfl) ?_
  refine j_putCR C dX10_init_48 CF10 (by decide) fl_X10_31 rfl (Or.inl ⟨_, rfl⟩) (Or.inl rfl) h (fun L12 h => ?_)
  refine j_aload_n C dX10_init_51 rfl ?_
  refine j_new C dX10_init_52 CF1 cl_X10_34 (tbi_1 (i := 164) rfl rfl) (tbi_1 (i := 9) rfl rfl) df1 (Nat.le_of_ble_eq_true rfl) (Nat.le_of_ble_eq_true rfl) h (fun n13 h => ?_)
  refine j_dup C dX10_init_55 rfl ?_
  obtain ⟨p14, ep14, h⟩ := bind_some h
  have qp14 := X1_init_ct ep14
  refine j_callIN C dX10_init_56 inl_X10_36 qp14 (Nat.le_of_ble_eq_true rfl) (Nat.le_of_ble_eq_true rfl) (Nat.le_of_ble_eq_true rfl) (Nat.le_of_ble_eq_true rfl) (Nat.le_of_ble_eq_true rfl) ?_
  refine j_putCR C dX10_init_59 CF10 (by decide) fl_X10_37 rfl (Or.inl ⟨_, rfl⟩) (Or.inr ⟨rfl, hnm, rfl⟩) h (fun L15 h => ?_)
  refine j_aload_n C dX10_init_62 rfl ?_
  refine j_new C dX10_init_63 CF1 cl_X10_34 (tbi_1 (i := 164) rfl rfl) (tbi_1 (i := 9) rfl rfl) df1 (Nat.le_of_ble_eq_true rfl) (Nat.le_of_ble_eq_true rfl) h (fun n16 h => ?_)
  refine j_dup C dX10_init_66 rfl ?_
  obtain ⟨p17, ep17, h⟩ := bind_some h
  have qp17 := X1_init_ct ep17
  refine j_callIN C dX10_init_67 inl_X10_36 qp17 (Nat.le_of_ble_eq_true rfl) (Nat.le_of_ble_eq_true rfl) (Nat.le_of_ble_eq_true rfl) (Nat.le_of_ble_eq_true rfl) (Nat.le_of_ble_eq_true rfl) ?_
  refine j_putCR C dX10_init_70 CF10 (by decide) fl_X10_41 rfl (Or.inl ⟨_, rfl⟩) (Or.inr ⟨rfl, hnm, rfl⟩) h (fun L18 h => ?_)
  refine j_aload_n C dX10_init_73 rfl ?_
  refine j_new C dX10_init_74 CF4 cl_X10_44 (tbi_2 (i := 82) rfl rfl) (tbi_1 (i := 11) rfl rfl) df4 (Nat.le_of_ble_eq_true rfl) (Nat.le_of_ble_eq_true rfl) h (fun n19 h => ?_)
  refine j_dup C dX10_init_77 rfl ?_
  obtain ⟨p20, ep20, h⟩ := bind_some h
  have qp20 := X4_init_ct ep20
  refine j_callI C dX10_init_78 il_X10_46 qp20 (Nat.le_of_ble_eq_true rfl) (Nat.le_of_ble_eq_true rfl) (Nat.le_of_ble_eq_true rfl) (Nat.le_of_ble_eq_true rfl) (Nat.le_of_ble_eq_true rfl) ?_
  refine j_putCR C dX10_init_81 CF10 (by decide) fl_X10_47 rfl (Or.inl ⟨_, rfl⟩) (Or.inr ⟨rfl, hnm, rfl⟩) h (fun L21 h => ?_)
  refine j_aload_n C dX10_init_84 rfl ?_
  refine j_iconst C dX10_init_85 rfl ?_
  refine j_putCI C dX10_init_86 CF10 (by decide) fl_X10_51 rfl ⟨rfl, rfl⟩ (Or.inl rfl) h (fun L22 h => ?_)
  refine j_aload_n C dX10_init_89 rfl ?_
  refine j_new C dX10_init_90 CF3 cl_X10_54 (tbi_2 (i := 102) rfl rfl) (tbi_1 (i := 12) rfl rfl) df3 (Nat.le_of_ble_eq_true rfl) (Nat.le_of_ble_eq_true rfl) h (fun n23 h => ?_)
  refine j_dup C dX10_init_93 rfl ?_
  obtain ⟨p24, ep24, h⟩ := bind_some h
  have qp24 := X3_init_ct ep24
  refine j_callIN C dX10_init_94 inl_X10_56 qp24 (Nat.le_of_ble_eq_true rfl) (Nat.le_of_ble_eq_true rfl) (Nat.le_of_ble_eq_true rfl) (Nat.le_of_ble_eq_true rfl) (Nat.le_of_ble_eq_true rfl) ?_
  refine j_putCR C dX10_init_97 CF10 (by decide) fl_X10_57 rfl (Or.inl ⟨_, rfl⟩) (Or.inr ⟨rfl, hnm, rfl⟩) h (fun L25 h => ?_)
  refine j_aload_n C dX10_init_100 rfl ?_
  refine j_new C dX10_init_101 CF3 cl_X10_54 (tbi_2 (i := 102) rfl rfl) (tbi_1 (i := 12) rfl rfl) df3 (Nat.le_of_ble_eq_true rfl) (Nat.le_of_ble_eq_true rfl) h (fun n26 h => ?_)
  refine j_dup C dX10_init_104 rfl ?_
  obtain ⟨p27, ep27, h⟩ := bind_some h
  have qp27 := X3_init_ct ep27
  refine j_callIN C dX10_init_105 inl_X10_56 qp27 (Nat.le_of_ble_eq_true rfl) (Nat.le_of_ble_eq_true rfl) (Nat.le_of_ble_eq_true rfl) (Nat.le_of_ble_eq_true rfl) (Nat.le_of_ble_eq_true rfl) ?_
  refine j_putCR C dX10_init_108 CF10 (by decide) fl_X10_61 rfl (Or.inl ⟨_, rfl⟩) (Or.inr ⟨rfl, hnm, rfl⟩) h (fun L28 h => ?_)
  refine j_aload_n C dX10_init_111 rfl ?_
  refine j_bipush C dX10_init_112 rfl ?_
  refine j_newarr C 1 dX10_init_114 (Or.inl ⟨rfl, rfl⟩) acI 13 rfl (Nat.le_of_ble_eq_true rfl) (Nat.le_of_ble_eq_true rfl) h (fun n29 h => ?_)
  refine j_putCR C dX10_init_116 CF10 (by decide) fl_X10_64 rfl (Or.inr ⟨_, rfl⟩) (Or.inr ⟨rfl, hnm, rfl⟩) h (fun L30 h => ?_)
  refine j_aload_n C dX10_init_119 rfl ?_
  refine j_iconst C dX10_init_120 rfl ?_
  refine j_putCI C dX10_init_121 CF10 (by decide) fl_X10_67 rfl ⟨rfl, rfl⟩ (Or.inl rfl) h (fun L31 h => ?_)
  refine j_aload_n C dX10_init_124 rfl ?_
  refine j_new C dX10_init_125 CF9 cl_X10_71 (tbi_2 (i := 143) rfl rfl) (tbi_1 (i := 13) rfl rfl) df9 (Nat.le_of_ble_eq_true rfl) (Nat.le_of_ble_eq_true rfl) h (fun n32 h => ?_)
  refine j_dup C dX10_init_128 rfl ?_
  obtain ⟨p33, ep33, h⟩ := bind_some h
  have qp33 := X9_init_ct ep33
  refine j_callIN C dX10_init_129 inl_X10_73 qp33 (Nat.le_of_ble_eq_true rfl) (Nat.le_of_ble_eq_true rfl) (Nat.le_of_ble_eq_true rfl) (Nat.le_of_ble_eq_true rfl) (Nat.le_of_ble_eq_true rfl) ?_
  refine j_putCR C dX10_init_132 CF10 (by decide) fl_X10_74 rfl (Or.inl ⟨_, rfl⟩) (Or.inr ⟨rfl, hnm, rfl⟩) h (fun L34 h => ?_)
  refine j_aload_n C dX10_init_135 rfl ?_
  refine j_new C dX10_init_136 CF0 cl_X10_78 (tbi_2 (i := 165) rfl rfl) (tbi_1 (i := 14) rfl rfl) df0 (Nat.le_of_ble_eq_true rfl) (Nat.le_of_ble_eq_true rfl) h (fun n35 h => ?_)
  refine j_dup C dX10_init_139 rfl ?_
  obtain ⟨p36, ep36, h⟩ := bind_some h
  have qp36 := X0_init_ct ep36
  refine j_callIN C dX10_init_140 inl_X10_80 qp36 (Nat.le_of_ble_eq_true rfl) (Nat.le_of_ble_eq_true rfl) (Nat.le_of_ble_eq_true rfl) (Nat.le_of_ble_eq_true rfl) (Nat.le_of_ble_eq_true rfl) ?_
  refine j_putCR C dX10_init_143 CF10 (by decide) fl_X10_81 rfl (Or.inl ⟨_, rfl⟩) (Or.inr ⟨rfl, hnm, rfl⟩) h (fun L37 h => ?_)
  refine j_aload_n C dX10_init_146 rfl ?_
  refine j_new C dX10_init_147 CF2 cl_X10_85 (tbi_2 (i := 205) rfl rfl) (tbi_1 (i := 15) rfl rfl) df2 (Nat.le_of_ble_eq_true rfl) (Nat.le_of_ble_eq_true rfl) h (fun n38 h => ?_)
  refine j_dup C dX10_init_150 rfl ?_
  obtain ⟨p39, ep39, h⟩ := bind_some h
  have qp39 := X2_init_ct ep39
  refine j_callIN C dX10_init_151 inl_X10_87 qp39 (Nat.le_of_ble_eq_true rfl) (Nat.le_of_ble_eq_true rfl) (Nat.le_of_ble_eq_true rfl) (Nat.le_of_ble_eq_true rfl) (Nat.le_of_ble_eq_true rfl) ?_
  refine j_putCR C dX10_init_154 CF10 (by decide) fl_X10_88 rfl (Or.inl ⟨_, rfl⟩) (Or.inr ⟨rfl, hnm, rfl⟩) h (fun L40 h => ?_)
  refine j_aload_n C dX10_init_157 rfl ?_
  refine j_bipush C dX10_init_158 rfl ?_
  refine j_newarr C 1 dX10_init_160 (Or.inl ⟨rfl, rfl⟩) acI 65 rfl (Nat.le_of_ble_eq_true rfl) (Nat.le_of_ble_eq_true rfl) h (fun n41 h => ?_)
  refine j_putCR C dX10_init_162 CF10 (by decide) fl_X10_92 rfl (Or.inr ⟨_, rfl⟩) (Or.inr ⟨rfl, hnm, rfl⟩) h (fun L42 h => ?_)
  refine j_aload_n C dX10_init_165 rfl ?_
  refine j_iconst C dX10_init_166 rfl ?_
  refine j_putCI C dX10_init_167 CF10 (by decide) fl_X10_95 rfl ⟨rfl, rfl⟩ (Or.inl rfl) h (fun L43 h => ?_)
  refine j_aload_n C dX10_init_170 rfl ?_
  refine j_bipush C dX10_init_171 rfl ?_
  refine j_newarr C 1 dX10_init_173 (Or.inl ⟨rfl, rfl⟩) acI 6 rfl (Nat.le_of_ble_eq_true rfl) (Nat.le_of_ble_eq_true rfl) h (fun n44 h => ?_)
  refine j_putCR C dX10_init_175 CF10 (by decide) fl_X10_98 rfl (Or.inr ⟨_, rfl⟩) (Or.inr ⟨rfl, hnm, rfl⟩) h (fun L45 h => ?_)
  have e := Option.some.inj h
  subst e
  exact j_vret C dX10_init_178 rfl (Nat.le_of_ble_eq_true rfl) (Nat.le_of_ble_eq_true rfl) rfl rfl rfl
theorem dX11_init_0 : decode cX11_init 0 = .ok (.aload_n 0, 1) := by decide +kernel
theorem dX11_init_1 : decode cX11_init 1 = .ok (.invokespecial 1, 3) := by decide +kernel
theorem dX11_init_4 : decode cX11_init 4 = .ok (.aload_n 0, 1) := by decide +kernel
theorem dX11_init_5 : decode cX11_init 5 = .ok (.sipush 1800, 3) := by decide +kernel
theorem dX11_init_8 : decode cX11_init 8 = .ok (.newarray .int, 2) := by decide +kernel
theorem dX11_init_10 : decode cX11_init 10 = .ok (.putfield 7, 3) := by decide +kernel
theorem dX11_init_13 : decode cX11_init 13 = .ok (.aload_n 0, 1) := by decide +kernel
theorem dX11_init_14 : decode cX11_init 14 = .ok (.iconst 0, 1) := by decide +kernel
theorem dX11_init_15 : decode cX11_init 15 = .ok (.putfield 13, 3) := by decide +kernel
theorem dX11_init_18 : decode cX11_init 18 = .ok (.aload_n 0, 1) := by decide +kernel
theorem dX11_init_19 : decode cX11_init 19 = .ok (.iconst 0, 1) := by decide +kernel
theorem dX11_init_20 : decode cX11_init 20 = .ok (.putfield 17, 3) := by decide +kernel
theorem dX11_init_23 : decode cX11_init 23 = .ok (.aload_n 0, 1) := by decide +kernel
theorem dX11_init_24 : decode cX11_init 24 = .ok (.iconst 0, 1) := by decide +kernel
theorem dX11_init_25 : decode cX11_init 25 = .ok (.putfield 20, 3) := by decide +kernel
theorem dX11_init_28 : decode cX11_init 28 = .ok (.aload_n 0, 1) := by decide +kernel
theorem dX11_init_29 : decode cX11_init 29 = .ok (.iconst 0, 1) := by decide +kernel
theorem dX11_init_30 : decode cX11_init 30 = .ok (.putfield 23, 3) := by decide +kernel
theorem dX11_init_33 : decode cX11_init 33 = .ok (.aload_n 0, 1) := by decide +kernel
theorem dX11_init_34 : decode cX11_init 34 = .ok (.iconst 0, 1) := by decide +kernel
theorem dX11_init_35 : decode cX11_init 35 = .ok (.putfield 26, 3) := by decide +kernel
theorem dX11_init_38 : decode cX11_init 38 = .ok (.aload_n 0, 1) := by decide +kernel
theorem dX11_init_39 : decode cX11_init 39 = .ok (.iconst 0, 1) := by decide +kernel
theorem dX11_init_40 : decode cX11_init 40 = .ok (.putfield 29, 3) := by decide +kernel
theorem dX11_init_43 : decode cX11_init 43 = .ok (.aload_n 0, 1) := by decide +kernel
theorem dX11_init_44 : decode cX11_init 44 = .ok (.lconst 0, 1) := by decide +kernel
theorem dX11_init_45 : decode cX11_init 45 = .ok (.putfield 32, 3) := by decide +kernel
theorem dX11_init_48 : decode cX11_init 48 = .ok (.aload_n 0, 1) := by decide +kernel
theorem dX11_init_49 : decode cX11_init 49 = .ok (.iconst 0, 1) := by decide +kernel
theorem dX11_init_50 : decode cX11_init 50 = .ok (.putfield 36, 3) := by decide +kernel
theorem dX11_init_53 : decode cX11_init 53 = .ok (.aload_n 0, 1) := by decide +kernel
theorem dX11_init_54 : decode cX11_init 54 = .ok (.iconst (-1), 1) := by decide +kernel
theorem dX11_init_55 : decode cX11_init 55 = .ok (.putfield 39, 3) := by decide +kernel
theorem dX11_init_58 : decode cX11_init 58 = .ok (.aload_n 0, 1) := by decide +kernel
theorem dX11_init_59 : decode cX11_init 59 = .ok (.iconst 0, 1) := by decide +kernel
theorem dX11_init_60 : decode cX11_init 60 = .ok (.putfield 42, 3) := by decide +kernel
theorem dX11_init_63 : decode cX11_init 63 = .ok (.aload_n 0, 1) := by decide +kernel
theorem dX11_init_64 : decode cX11_init 64 = .ok (.iconst (-1), 1) := by decide +kernel
theorem dX11_init_65 : decode cX11_init 65 = .ok (.putfield 45, 3) := by decide +kernel
theorem dX11_init_68 : decode cX11_init 68 = .ok (.aload_n 0, 1) := by decide +kernel
theorem dX11_init_69 : decode cX11_init 69 = .ok (.iconst (-1), 1) := by decide +kernel
theorem dX11_init_70 : decode cX11_init 70 = .ok (.putfield 48, 3) := by decide +kernel
theorem dX11_init_73 : decode cX11_init 73 = .ok (.aload_n 0, 1) := by decide +kernel
theorem dX11_init_74 : decode cX11_init 74 = .ok (.iconst 0, 1) := by decide +kernel
theorem dX11_init_75 : decode cX11_init 75 = .ok (.putfield 51, 3) := by decide +kernel
theorem dX11_init_78 : decode cX11_init 78 = .ok (.aload_n 0, 1) := by decide +kernel
theorem dX11_init_79 : decode cX11_init 79 = .ok (.iconst 2, 1) := by decide +kernel
theorem dX11_init_80 : decode cX11_init 80 = .ok (.newarray .int, 2) := by decide +kernel
theorem dX11_init_82 : decode cX11_init 82 = .ok (.putfield 54, 3) := by decide +kernel
theorem dX11_init_85 : decode cX11_init 85 = .ok (.aload_n 0, 1) := by decide +kernel
theorem dX11_init_86 : decode cX11_init 86 = .ok (.iconst 2, 1) := by decide +kernel
theorem dX11_init_87 : decode cX11_init 87 = .ok (.newarray .int, 2) := by decide +kernel
theorem dX11_init_89 : decode cX11_init 89 = .ok (.putfield 57, 3) := by decide +kernel
theorem dX11_init_92 : decode cX11_init 92 = .ok (.aload_n 0, 1) := by decide +kernel
theorem dX11_init_93 : decode cX11_init 93 = .ok (.bipush 84, 2) := by decide +kernel
theorem dX11_init_95 : decode cX11_init 95 = .ok (.newarray .int, 2) := by decide +kernel
theorem dX11_init_97 : decode cX11_init 97 = .ok (.putfield 60, 3) := by decide +kernel
theorem dX11_init_100 : decode cX11_init 100 = .ok (.aload_n 0, 1) := by decide +kernel
theorem dX11_init_101 : decode cX11_init 101 = .ok (.bipush 84, 2) := by decide +kernel
theorem dX11_init_103 : decode cX11_init 103 = .ok (.newarray .int, 2) := by decide +kernel
theorem dX11_init_105 : decode cX11_init 105 = .ok (.putfield 63, 3) := by decide +kernel
theorem dX11_init_108 : decode cX11_init 108 = .ok (.aload_n 0, 1) := by decide +kernel
theorem dX11_init_109 : decode cX11_init 109 = .ok (.bipush 84, 2) := by decide +kernel
theorem dX11_init_111 : decode cX11_init 111 = .ok (.newarray .int, 2) := by decide +kernel
theorem dX11_init_113 : decode cX11_init 113 = .ok (.putfield 66, 3) := by decide +kernel
theorem dX11_init_116 : decode cX11_init 116 = .ok (.aload_n 0, 1) := by decide +kernel
theorem dX11_init_117 : decode cX11_init 117 = .ok (.iconst 2, 1) := by decide +kernel
theorem dX11_init_118 : decode cX11_init 118 = .ok (.newarray .int, 2) := by decide +kernel
theorem dX11_init_120 : decode cX11_init 120 = .ok (.putfield 69, 3) := by decide +kernel
theorem dX11_init_123 : decode cX11_init 123 = .ok (.aload_n 0, 1) := by decide +kernel
theorem dX11_init_124 : decode cX11_init 124 = .ok (.iconst 2, 1) := by decide +kernel
theorem dX11_init_125 : decode cX11_init 125 = .ok (.newarray .int, 2) := by decide +kernel
theorem dX11_init_127 : decode cX11_init 127 = .ok (.putfield 72, 3) := by decide +kernel
theorem dX11_init_130 : decode cX11_init 130 = .ok (.aload_n 0, 1) := by decide +kernel
theorem dX11_init_131 : decode cX11_init 131 = .ok (.iconst 2, 1) := by decide +kernel
theorem dX11_init_132 : decode cX11_init 132 = .ok (.newarray .int, 2) := by decide +kernel
theorem dX11_init_134 : decode cX11_init 134 = .ok (.putfield 75, 3) := by decide +kernel
theorem dX11_init_137 : decode cX11_init 137 = .ok (.aload_n 0, 1) := by decide +kernel
theorem dX11_init_138 : decode cX11_init 138 = .ok (.bipush 10, 2) := by decide +kernel
theorem dX11_init_140 : decode cX11_init 140 = .ok (.newarray .int, 2) := by decide +kernel
theorem dX11_init_142 : decode cX11_init 142 = .ok (.putfield 78, 3) := by decide +kernel
theorem dX11_init_145 : decode cX11_init 145 = .ok (.aload_n 0, 1) := by decide +kernel
theorem dX11_init_146 : decode cX11_init 146 = .ok (.iconst 2, 1) := by decide +kernel
theorem dX11_init_147 : decode cX11_init 147 = .ok (.newarray .int, 2) := by decide +kernel
theorem dX11_init_149 : decode cX11_init 149 = .ok (.putfield 81, 3) := by decide +kernel
theorem dX11_init_152 : decode cX11_init 152 = .ok (.aload_n 0, 1) := by decide +kernel
theorem dX11_init_153 : decode cX11_init 153 = .ok (.bipush 20, 2) := by decide +kernel
theorem dX11_init_155 : decode cX11_init 155 = .ok (.newarray .int, 2) := by decide +kernel
theorem dX11_init_157 : decode cX11_init 157 = .ok (.putfield 84, 3) := by decide +kernel
theorem dX11_init_160 : decode cX11_init 160 = .ok (.aload_n 0, 1) := by decide +kernel
theorem dX11_init_161 : decode cX11_init 161 = .ok (.bipush 20, 2) := by decide +kernel
theorem dX11_init_163 : decode cX11_init 163 = .ok (.newarray .int, 2) := by decide +kernel
theorem dX11_init_165 : decode cX11_init 165 = .ok (.putfield 87, 3) := by decide +kernel
theorem dX11_init_168 : decode cX11_init 168 = .ok (.aload_n 0, 1) := by decide +kernel
theorem dX11_init_169 : decode cX11_init 169 = .ok (.bipush 20, 2) := by decide +kernel
theorem dX11_init_171 : decode cX11_init 171 = .ok (.newarray .int, 2) := by decide +kernel
theorem dX11_init_173 : decode cX11_init 173 = .ok (.putfield 90, 3) := by decide +kernel
theorem dX11_init_176 : decode cX11_init 176 = .ok (.aload_n 0, 1) := by decide +kernel
theorem dX11_init_177 : decode cX11_init 177 = .ok (.bipush 24, 2) := by decide +kernel
theorem dX11_init_179 : decode cX11_init 179 = .ok (.newarray .int, 2) := by decide +kernel
theorem dX11_init_181 : decode cX11_init 181 = .ok (.putfield 93, 3) := by decide +kernel
theorem dX11_init_184 : decode cX11_init 184 = .ok (.aload_n 0, 1) := by decide +kernel
theorem dX11_init_185 : decode cX11_init 185 = .ok (.iconst 2, 1) := by decide +kernel
theorem dX11_init_186 : decode cX11_init 186 = .ok (.newarray .int, 2) := by decide +kernel
theorem dX11_init_188 : decode cX11_init 188 = .ok (.putfield 96, 3) := by decide +kernel
theorem dX11_init_191 : decode cX11_init 191 = .ok (.aload_n 0, 1) := by decide +kernel
theorem dX11_init_192 : decode cX11_init 192 = .ok (.iconst 2, 1) := by decide +kernel
theorem dX11_init_193 : decode cX11_init 193 = .ok (.newarray .int, 2) := by decide +kernel
theorem dX11_init_195 : decode cX11_init 195 = .ok (.putfield 99, 3) := by decide +kernel
theorem dX11_init_198 : decode cX11_init 198 = .ok (.aload_n 0, 1) := by decide +kernel
theorem dX11_init_199 : decode cX11_init 199 = .ok (.iconst 2, 1) := by decide +kernel
theorem dX11_init_200 : decode cX11_init 200 = .ok (.newarray .int, 2) := by decide +kernel
theorem dX11_init_202 : decode cX11_init 202 = .ok (.putfield 102, 3) := by decide +kernel
theorem dX11_init_205 : decode cX11_init 205 = .ok (.aload_n 0, 1) := by decide +kernel
theorem dX11_init_206 : decode cX11_init 206 = .ok (.iconst 2, 1) := by decide +kernel
theorem dX11_init_207 : decode cX11_init 207 = .ok (.newarray .int, 2) := by decide +kernel
theorem dX11_init_209 : decode cX11_init 209 = .ok (.putfield 105, 3) := by decide +kernel
theorem dX11_init_212 : decode cX11_init 212 = .ok (.aload_n 0, 1) := by decide +kernel
theorem dX11_init_213 : decode cX11_init 213 = .ok (.iconst 2, 1) := by decide +kernel
theorem dX11_init_214 : decode cX11_init 214 = .ok (.newarray .int, 2) := by decide +kernel
theorem dX11_init_216 : decode cX11_init 216 = .ok (.putfield 108, 3) := by decide +kernel
theorem dX11_init_219 : decode cX11_init 219 = .ok (.aload_n 0, 1) := by decide +kernel
theorem dX11_init_220 : decode cX11_init 220 = .ok (.iconst 2, 1) := by decide +kernel
theorem dX11_init_221 : decode cX11_init 221 = .ok (.newarray .int, 2) := by decide +kernel
theorem dX11_init_223 : decode cX11_init 223 = .ok (.putfield 111, 3) := by decide +kernel
theorem dX11_init_226 : decode cX11_init 226 = .ok (.aload_n 0, 1) := by decide +kernel
theorem dX11_init_227 : decode cX11_init 227 = .ok (.iconst 2, 1) := by decide +kernel
theorem dX11_init_228 : decode cX11_init 228 = .ok (.newarray .int, 2) := by decide +kernel
theorem dX11_init_230 : decode cX11_init 230 = .ok (.putfield 114, 3) := by decide +kernel
theorem dX11_init_233 : decode cX11_init 233 = .ok (.aload_n 0, 1) := by decide +kernel
theorem dX11_init_234 : decode cX11_init 234 = .ok (.sipush 3200, 3) := by decide +kernel
theorem dX11_init_237 : decode cX11_init 237 = .ok (.newarray .int, 2) := by decide +kernel
theorem dX11_init_239 : decode cX11_init 239 = .ok (.putfield 117, 3) := by decide +kernel
theorem dX11_init_242 : decode cX11_init 242 = .ok (.aload_n 0, 1) := by decide +kernel
theorem dX11_init_243 : decode cX11_init 243 = .ok (.sipush 3200, 3) := by decide +kernel
theorem dX11_init_246 : decode cX11_init 246 = .ok (.newarray .int, 2) := by decide +kernel
theorem dX11_init_248 : decode cX11_init 248 = .ok (.putfield 120, 3) := by decide +kernel
theorem dX11_init_251 : decode cX11_init 251 = .ok (.aload_n 0, 1) := by decide +kernel
theorem dX11_init_252 : decode cX11_init 252 = .ok (.bipush 10, 2) := by decide +kernel
theorem dX11_init_254 : decode cX11_init 254 = .ok (.newarray .long, 2) := by decide +kernel
theorem dX11_init_256 : decode cX11_init 256 = .ok (.putfield 123, 3) := by decide +kernel
theorem dX11_init_259 : decode cX11_init 259 = .ok (.aload_n 0, 1) := by decide +kernel
theorem dX11_init_260 : decode cX11_init 260 = .ok (.bipush 20, 2) := by decide +kernel
theorem dX11_init_262 : decode cX11_init 262 = .ok (.newarray .long, 2) := by decide +kernel
theorem dX11_init_264 : decode cX11_init 264 = .ok (.putfield 127, 3) := by decide +kernel
theorem dX11_init_267 : decode cX11_init 267 = .ok (.aload_n 0, 1) := by decide +kernel
theorem dX11_init_268 : decode cX11_init 268 = .ok (.iconst 0, 1) := by decide +kernel
theorem dX11_init_269 : decode cX11_init 269 = .ok (.putfield 130, 3) := by decide +kernel
theorem dX11_init_272 : decode cX11_init 272 = .ok (.aload_n 0, 1) := by decide +kernel
theorem dX11_init_273 : decode cX11_init 273 = .ok (.iconst 1, 1) := by decide +kernel
theorem dX11_init_274 : decode cX11_init 274 = .ok (.putfield 133, 3) := by decide +kernel
theorem dX11_init_277 : decode cX11_init 277 = .ok (.aload_n 0, 1) := by decide +kernel
theorem dX11_init_278 : decode cX11_init 278 = .ok (.bipush 20, 2) := by decide +kernel
theorem dX11_init_280 : decode cX11_init 280 = .ok (.newarray .int, 2) := by decide +kernel
theorem dX11_init_282 : decode cX11_init 282 = .ok (.putfield 136, 3) := by decide +kernel
theorem dX11_init_285 : decode cX11_init 285 = .ok (.aload_n 0, 1) := by decide +kernel
theorem dX11_init_286 : decode cX11_init 286 = .ok (.bipush 20, 2) := by decide +kernel
theorem dX11_init_288 : decode cX11_init 288 = .ok (.newarray .int, 2) := by decide +kernel
theorem dX11_init_290 : decode cX11_init 290 = .ok (.putfield 139, 3) := by decide +kernel
theorem dX11_init_293 : decode cX11_init 293 = .ok (.aload_n 0, 1) := by decide +kernel
theorem dX11_init_294 : decode cX11_init 294 = .ok (.bipush 20, 2) := by decide +kernel
theorem dX11_init_296 : decode cX11_init 296 = .ok (.newarray .int, 2) := by decide +kernel
theorem dX11_init_298 : decode cX11_init 298 = .ok (.putfield 142, 3) := by decide +kernel
theorem dX11_init_301 : decode cX11_init 301 = .ok (.aload_n 0, 1) := by decide +kernel
theorem dX11_init_302 : decode cX11_init 302 = .ok (.iconst 0, 1) := by decide +kernel
theorem dX11_init_303 : decode cX11_init 303 = .ok (.putfield 145, 3) := by decide +kernel
theorem dX11_init_306 : decode cX11_init 306 = .ok (.aload_n 0, 1) := by decide +kernel
theorem dX11_init_307 : decode cX11_init 307 = .ok (.iconst 0, 1) := by decide +kernel
theorem dX11_init_308 : decode cX11_init 308 = .ok (.putfield 148, 3) := by decide +kernel
theorem dX11_init_311 : decode cX11_init 311 = .ok (.aload_n 0, 1) := by decide +kernel
theorem dX11_init_312 : decode cX11_init 312 = .ok (.sipush 500, 3) := by decide +kernel
theorem dX11_init_315 : decode cX11_init 315 = .ok (.newarray .int, 2) := by decide +kernel
theorem dX11_init_317 : decode cX11_init 317 = .ok (.putfield 151, 3) := by decide +kernel
theorem dX11_init_320 : decode cX11_init 320 = .ok (.aload_n 0, 1) := by decide +kernel
theorem dX11_init_321 : decode cX11_init 321 = .ok (.iconst 0, 1) := by decide +kernel
theorem dX11_init_322 : decode cX11_init 322 = .ok (.putfield 154, 3) := by decide +kernel
theorem dX11_init_325 : decode cX11_init 325 = .ok (.aload_n 0, 1) := by decide +kernel
theorem dX11_init_326 : decode cX11_init 326 = .ok (.iconst 0, 1) := by decide +kernel
theorem dX11_init_327 : decode cX11_init 327 = .ok (.putfield 157, 3) := by decide +kernel
theorem dX11_init_330 : decode cX11_init 330 = .ok (.aload_n 0, 1) := by decide +kernel
theorem dX11_init_331 : decode cX11_init 331 = .ok (.bipush 6, 2) := by decide +kernel
theorem dX11_init_333 : decode cX11_init 333 = .ok (.newarray .int, 2) := by decide +kernel
theorem dX11_init_335 : decode cX11_init 335 = .ok (.putfield 161, 3) := by decide +kernel
theorem dX11_init_338 : decode cX11_init 338 = .ok (.aload_n 0, 1) := by decide +kernel
theorem dX11_init_339 : decode cX11_init 339 = .ok (.bipush 22, 2) := by decide +kernel
theorem dX11_init_341 : decode cX11_init 341 = .ok (.newarray .int, 2) := by decide +kernel
theorem dX11_init_343 : decode cX11_init 343 = .ok (.putfield 164, 3) := by decide +kernel
theorem dX11_init_346 : decode cX11_init 346 = .ok (.aload_n 0, 1) := by decide +kernel
theorem dX11_init_347 : decode cX11_init 347 = .ok (.sipush 924, 3) := by decide +kernel
theorem dX11_init_350 : decode cX11_init 350 = .ok (.newarray .int, 2) := by decide +kernel
theorem dX11_init_352 : decode cX11_init 352 = .ok (.putfield 167, 3) := by decide +kernel
theorem dX11_init_355 : decode cX11_init 355 = .ok (.aload_n 0, 1) := by decide +kernel
theorem dX11_init_356 : decode cX11_init 356 = .ok (.sipush 220, 3) := by decide +kernel
theorem dX11_init_359 : decode cX11_init 359 = .ok (.newarray .int, 2) := by decide +kernel
theorem dX11_init_361 : decode cX11_init 361 = .ok (.putfield 170, 3) := by decide +kernel
theorem dX11_init_364 : decode cX11_init 364 = .ok (.aload_n 0, 1) := by decide +kernel
theorem dX11_init_365 : decode cX11_init 365 = .ok (.bipush 110, 2) := by decide +kernel
theorem dX11_init_367 : decode cX11_init 367 = .ok (.newarray .int, 2) := by decide +kernel
theorem dX11_init_369 : decode cX11_init 369 = .ok (.putfield 173, 3) := by decide +kernel
theorem dX11_init_372 : decode cX11_init 372 = .ok (.aload_n 0, 1) := by decide +kernel
theorem dX11_init_373 : decode cX11_init 373 = .ok (.iconst 0, 1) := by decide +kernel
theorem dX11_init_374 : decode cX11_init 374 = .ok (.putfield 176, 3) := by decide +kernel
theorem dX11_init_377 : decode cX11_init 377 = .ok (.aload_n 0, 1) := by decide +kernel
theorem dX11_init_378 : decode cX11_init 378 = .ok (.iconst 0, 1) := by decide +kernel
theorem dX11_init_379 : decode cX11_init 379 = .ok (.putfield 179, 3) := by decide +kernel
theorem dX11_init_382 : decode cX11_init 382 = .ok (.aload_n 0, 1) := by decide +kernel
theorem dX11_init_383 : decode cX11_init 383 = .ok (.lconst 1, 1) := by decide +kernel
theorem dX11_init_384 : decode cX11_init 384 = .ok (.putfield 182, 3) := by decide +kernel
theorem dX11_init_387 : decode cX11_init 387 = .ok (.aload_n 0, 1) := by decide +kernel
theorem dX11_init_388 : decode cX11_init 388 = .ok (.sipush 500, 3) := by decide +kernel
theorem dX11_init_391 : decode cX11_init 391 = .ok (.newarray .long, 2) := by decide +kernel
theorem dX11_init_393 : decode cX11_init 393 = .ok (.putfield 185, 3) := by decide +kernel
theorem dX11_init_396 : decode cX11_init 396 = .ok (.aload_n 0, 1) := by decide +kernel
theorem dX11_init_397 : decode cX11_init 397 = .ok (.iconst 0, 1) := by decide +kernel
theorem dX11_init_398 : decode cX11_init 398 = .ok (.putfield 188, 3) := by decide +kernel
theorem dX11_init_401 : decode cX11_init 401 = .ok (.aload_n 0, 1) := by decide +kernel
theorem dX11_init_402 : decode cX11_init 402 = .ok (.iconst 0, 1) := by decide +kernel
theorem dX11_init_403 : decode cX11_init 403 = .ok (.putfield 191, 3) := by decide +kernel
theorem dX11_init_406 : decode cX11_init 406 = .ok (.aload_n 0, 1) := by decide +kernel
theorem dX11_init_407 : decode cX11_init 407 = .ok (.iconst 0, 1) := by decide +kernel
theorem dX11_init_408 : decode cX11_init 408 = .ok (.putfield 194, 3) := by decide +kernel
theorem dX11_init_411 : decode cX11_init 411 = .ok (.aload_n 0, 1) := by decide +kernel
theorem dX11_init_412 : decode cX11_init 412 = .ok (.iconst 0, 1) := by decide +kernel
theorem dX11_init_413 : decode cX11_init 413 = .ok (.putfield 197, 3) := by decide +kernel
theorem dX11_init_416 : decode cX11_init 416 = .ok (.aload_n 0, 1) := by decide +kernel
theorem dX11_init_417 : decode cX11_init 417 = .ok (.bipush 12, 2) := by decide +kernel
theorem dX11_init_419 : decode cX11_init 419 = .ok (.newarray .int, 2) := by decide +kernel
theorem dX11_init_421 : decode cX11_init 421 = .ok (.putfield 200, 3) := by decide +kernel
theorem dX11_init_424 : decode cX11_init 424 = .ok (.aload_n 0, 1) := by decide +kernel
theorem dX11_init_425 : decode cX11_init 425 = .ok (.sipush 546, 3) := by decide +kernel
theorem dX11_init_428 : decode cX11_init 428 = .ok (.newarray .int, 2) := by decide +kernel
theorem dX11_init_430 : decode cX11_init 430 = .ok (.putfield 203, 3) := by decide +kernel
theorem dX11_init_433 : decode cX11_init 433 = .ok (.aload_n 0, 1) := by decide +kernel
theorem dX11_init_434 : decode cX11_init 434 = .ok (.sipush 130, 3) := by decide +kernel
theorem dX11_init_437 : decode cX11_init 437 = .ok (.newarray .int, 2) := by decide +kernel
theorem dX11_init_439 : decode cX11_init 439 = .ok (.putfield 206, 3) := by decide +kernel
theorem dX11_init_442 : decode cX11_init 442 = .ok (.aload_n 0, 1) := by decide +kernel
theorem dX11_init_443 : decode cX11_init 443 = .ok (.sipush 130, 3) := by decide +kernel
theorem dX11_init_446 : decode cX11_init 446 = .ok (.newarray .int, 2) := by decide +kernel
theorem dX11_init_448 : decode cX11_init 448 = .ok (.putfield 209, 3) := by decide +kernel
theorem dX11_init_451 : decode cX11_init 451 = .ok (.aload_n 0, 1) := by decide +kernel
theorem dX11_init_452 : decode cX11_init 452 = .ok (.sipush 130, 3) := by decide +kernel
theorem dX11_init_455 : decode cX11_init 455 = .ok (.newarray .int, 2) := by decide +kernel
theorem dX11_init_457 : decode cX11_init 457 = .ok (.putfield 212, 3) := by decide +kernel
theorem dX11_init_460 : decode cX11_init 460 = .ok (.aload_n 0, 1) := by decide +kernel
theorem dX11_init_461 : decode cX11_init 461 = .ok (.bipush 10, 2) := by decide +kernel
theorem dX11_init_463 : decode cX11_init 463 = .ok (.newarray .int, 2) := by decide +kernel
theorem dX11_init_465 : decode cX11_init 465 = .ok (.putfield 215, 3) := by decide +kernel
theorem dX11_init_468 : decode cX11_init 468 = .ok (.aload_n 0, 1) := by decide +kernel
theorem dX11_init_469 : decode cX11_init 469 = .ok (.bipush 10, 2) := by decide +kernel
theorem dX11_init_471 : decode cX11_init 471 = .ok (.newarray .int, 2) := by decide +kernel
theorem dX11_init_473 : decode cX11_init 473 = .ok (.putfield 218, 3) := by decide +kernel
theorem dX11_init_476 : decode cX11_init 476 = .ok (.aload_n 0, 1) := by decide +kernel
theorem dX11_init_477 : decode cX11_init 477 = .ok (.iconst 0, 1) := by decide +kernel
theorem dX11_init_478 : decode cX11_init 478 = .ok (.putfield 221, 3) := by decide +kernel
theorem dX11_init_481 : decode cX11_init 481 = .ok (.aload_n 0, 1) := by decide +kernel
theorem dX11_init_482 : decode cX11_init 482 = .ok (.iconst 0, 1) := by decide +kernel
theorem dX11_init_483 : decode cX11_init 483 = .ok (.putfield 224, 3) := by decide +kernel
theorem dX11_init_486 : decode cX11_init 486 = .ok (.aload_n 0, 1) := by decide +kernel
theorem dX11_init_487 : decode cX11_init 487 = .ok (.iconst 2, 1) := by decide +kernel
theorem dX11_init_488 : decode cX11_init 488 = .ok (.newarray .int, 2) := by decide +kernel
theorem dX11_init_490 : decode cX11_init 490 = .ok (.putfield 227, 3) := by decide +kernel
theorem dX11_init_493 : decode cX11_init 493 = .ok (.aload_n 0, 1) := by decide +kernel
theorem dX11_init_494 : decode cX11_init 494 = .ok (.iconst 0, 1) := by decide +kernel
theorem dX11_init_495 : decode cX11_init 495 = .ok (.putfield 230, 3) := by decide +kernel
theorem dX11_init_498 : decode cX11_init 498 = .ok (.aload_n 0, 1) := by decide +kernel
theorem dX11_init_499 : decode cX11_init 499 = .ok (.bipush 10, 2) := by decide +kernel
theorem dX11_init_501 : decode cX11_init 501 = .ok (.newarray .int, 2) := by decide +kernel
theorem dX11_init_503 : decode cX11_init 503 = .ok (.putfield 233, 3) := by decide +kernel
theorem dX11_init_506 : decode cX11_init 506 = .ok (.aload_n 0, 1) := by decide +kernel
theorem dX11_init_507 : decode cX11_init 507 = .ok (.bipush 10, 2) := by decide +kernel
theorem dX11_init_509 : decode cX11_init 509 = .ok (.newarray .int, 2) := by decide +kernel
theorem dX11_init_511 : decode cX11_init 511 = .ok (.putfield 236, 3) := by decide +kernel
theorem dX11_init_514 : decode cX11_init 514 = .ok (.aload_n 0, 1) := by decide +kernel
theorem dX11_init_515 : decode cX11_init 515 = .ok (.sipush 10240, 3) := by decide +kernel
theorem dX11_init_518 : decode cX11_init 518 = .ok (.newarray .int, 2) := by decide +kernel
theorem dX11_init_520 : decode cX11_init 520 = .ok (.putfield 239, 3) := by decide +kernel
theorem dX11_init_523 : decode cX11_init 523 = .ok (.aload_n 0, 1) := by decide +kernel
theorem dX11_init_524 : decode cX11_init 524 = .ok (.bipush 70, 2) := by decide +kernel
theorem dX11_init_526 : decode cX11_init 526 = .ok (.newarray .int, 2) := by decide +kernel
theorem dX11_init_528 : decode cX11_init 528 = .ok (.putfield 242, 3) := by decide +kernel
theorem dX11_init_531 : decode cX11_init 531 = .ok (.aload_n 0, 1) := by decide +kernel
theorem dX11_init_532 : decode cX11_init 532 = .ok (.iconst 0, 1) := by decide +kernel
theorem dX11_init_533 : decode cX11_init 533 = .ok (.putfield 245, 3) := by decide +kernel
theorem dX11_init_536 : decode cX11_init 536 = .ok (.aload_n 0, 1) := by decide +kernel
theorem dX11_init_537 : decode cX11_init 537 = .ok (.getfield 114, 3) := by decide +kernel
theorem dX11_init_540 : decode cX11_init 540 = .ok (.iconst 0, 1) := by decide +kernel
theorem dX11_init_541 : decode cX11_init 541 = .ok (.iconst 5, 1) := by decide +kernel
theorem dX11_init_542 : decode cX11_init 542 = .ok (.iastore, 1) := by decide +kernel
theorem dX11_init_543 : decode cX11_init 543 = .ok (.aload_n 0, 1) := by decide +kernel
theorem dX11_init_544 : decode cX11_init 544 = .ok (.getfield 96, 3) := by decide +kernel
theorem dX11_init_547 : decode cX11_init 547 = .ok (.iconst 0, 1) := by decide +kernel
theorem dX11_init_548 : decode cX11_init 548 = .ok (.iconst (-1), 1) := by decide +kernel
theorem dX11_init_549 : decode cX11_init 549 = .ok (.iastore, 1) := by decide +kernel
theorem dX11_init_550 : decode cX11_init 550 = .ok (.aload_n 0, 1) := by decide +kernel
theorem dX11_init_551 : decode cX11_init 551 = .ok (.getfield 102, 3) := by decide +kernel
theorem dX11_init_554 : decode cX11_init 554 = .ok (.iconst 0, 1) := by decide +kernel
theorem dX11_init_555 : decode cX11_init 555 = .ok (.iconst (-1), 1) := by decide +kernel
theorem dX11_init_556 : decode cX11_init 556 = .ok (.iastore, 1) := by decide +kernel
theorem dX11_init_557 : decode cX11_init 557 = .ok (.return_, 1) := by decide +kernel
def X11_init (l0 n : Nat) (L : MLs) : Option (Nat × MLs) :=
  (newA 1 1800 n).bind fun n1 =>
  (putCR 11 0 l0 n1 n1 L).bind fun L2 =>
  (putC 11 1 l0 0 n1 L2).bind fun L3 =>
  (putC 11 2 l0 0 n1 L3).bind fun L4 =>
  (putC 11 3 l0 0 n1 L4).bind fun L5 =>
  (putC 11 4 l0 0 n1 L5).bind fun L6 =>
  (putC 11 5 l0 0 n1 L6).bind fun L7 =>
  (putC 11 6 l0 0 n1 L7).bind fun L8 =>
  (putC 11 7 l0 0 n1 L8).bind fun L9 =>
  (putC 11 8 l0 0 n1 L9).bind fun L10 =>
  (putC 11 9 l0 (-1) n1 L10).bind fun L11 =>
  (putC 11 10 l0 0 n1 L11).bind fun L12 =>
  (putC 11 11 l0 (-1) n1 L12).bind fun L13 =>
  (putC 11 12 l0 (-1) n1 L13).bind fun L14 =>
  (putC 11 13 l0 0 n1 L14).bind fun L15 =>
  (newA 1 2 n1).bind fun n16 =>
  (putCR 11 14 l0 n16 n16 L15).bind fun L17 =>
  (newA 1 2 n16).bind fun n18 =>
  (putCR 11 15 l0 n18 n18 L17).bind fun L19 =>
  (newA 1 84 n18).bind fun n20 =>
  (putCR 11 16 l0 n20 n20 L19).bind fun L21 =>
  (newA 1 84 n20).bind fun n22 =>
  (putCR 11 17 l0 n22 n22 L21).bind fun L23 =>
  (newA 1 84 n22).bind fun n24 =>
  (putCR 11 18 l0 n24 n24 L23).bind fun L25 =>
  (newA 1 2 n24).bind fun n26 =>
  (putCR 11 19 l0 n26 n26 L25).bind fun L27 =>
  (newA 1 2 n26).bind fun n28 =>
  (putCR 11 20 l0 n28 n28 L27).bind fun L29 =>
  (newA 1 2 n28).bind fun n30 =>
  (putCR 11 21 l0 n30 n30 L29).bind fun L31 =>
  (newA 1 10 n30).bind fun n32 =>
  (putCR 11 22 l0 n32 n32 L31).bind fun L33 =>
  (newA 1 2 n32).bind fun n34 =>
  (putCR 11 23 l0 n34 n34 L33).bind fun L35 =>
  (newA 1 20 n34).bind fun n36 =>
  (putCR 11 24 l0 n36 n36 L35).bind fun L37 =>
  (newA 1 20 n36).bind fun n38 =>
  (putCR 11 25 l0 n38 n38 L37).bind fun L39 =>
  (newA 1 20 n38).bind fun n40 =>
  (putCR 11 26 l0 n40 n40 L39).bind fun L41 =>
  (newA 1 24 n40).bind fun n42 =>
  (putCR 11 27 l0 n42 n42 L41).bind fun L43 =>
  (newA 1 2 n42).bind fun n44 =>
  (putCR 11 28 l0 n44 n44 L43).bind fun L45 =>
  (newA 1 2 n44).bind fun n46 =>
  (putCR 11 29 l0 n46 n46 L45).bind fun L47 =>
  (newA 1 2 n46).bind fun n48 =>
  (putCR 11 30 l0 n48 n48 L47).bind fun L49 =>
  (newA 1 2 n48).bind fun n50 =>
  (putCR 11 31 l0 n50 n50 L49).bind fun L51 =>
  (newA 1 2 n50).bind fun n52 =>
  (putCR 11 32 l0 n52 n52 L51).bind fun L53 =>
  (newA 1 2 n52).bind fun n54 =>
  (putCR 11 33 l0 n54 n54 L53).bind fun L55 =>
  (newA 1 2 n54).bind fun n56 =>
  (putCR 11 34 l0 n56 n56 L55).bind fun L57 =>
  (newA 1 3200 n56).bind fun n58 =>
  (putCR 11 35 l0 n58 n58 L57).bind fun L59 =>
  (newA 1 3200 n58).bind fun n60 =>
  (putCR 11 36 l0 n60 n60 L59).bind fun L61 =>
  (newA 2 10 n60).bind fun n62 =>
  (putCR 11 37 l0 n62 n62 L61).bind fun L63 =>
  (newA 2 20 n62).bind fun n64 =>
  (putCR 11 38 l0 n64 n64 L63).bind fun L65 =>
  (putC 11 39 l0 0 n64 L65).bind fun L66 =>
  (putC 11 40 l0 1 n64 L66).bind fun L67 =>
  (newA 1 20 n64).bind fun n68 =>
  (putCR 11 41 l0 n68 n68 L67).bind fun L69 =>
  (newA 1 20 n68).bind fun n70 =>
  (putCR 11 42 l0 n70 n70 L69).bind fun L71 =>
  (newA 1 20 n70).bind fun n72 =>
  (putCR 11 43 l0 n72 n72 L71).bind fun L73 =>
  (putC 11 44 l0 0 n72 L73).bind fun L74 =>
  (putC 11 45 l0 0 n72 L74).bind fun L75 =>
  (newA 1 500 n72).bind fun n76 =>
  (putCR 11 46 l0 n76 n76 L75).bind fun L77 =>
  (putC 11 47 l0 0 n76 L77).bind fun L78 =>
  (putC 11 48 l0 0 n76 L78).bind fun L79 =>
  (newA 1 6 n76).bind fun n80 =>
  (putCR 11 49 l0 n80 n80 L79).bind fun L81 =>
  (newA 1 22 n80).bind fun n82 =>
  (putCR 11 50 l0 n82 n82 L81).bind fun L83 =>
  (newA 1 924 n82).bind fun n84 =>
  (putCR 11 51 l0 n84 n84 L83).bind fun L85 =>
  (newA 1 220 n84).bind fun n86 =>
  (putCR 11 52 l0 n86 n86 L85).bind fun L87 =>
  (newA 1 110 n86).bind fun n88 =>
  (putCR 11 53 l0 n88 n88 L87).bind fun L89 =>
  (putC 11 54 l0 0 n88 L89).bind fun L90 =>
  (putC 11 55 l0 0 n88 L90).bind fun L91 =>
  (putC 11 56 l0 1 n88 L91).bind fun L92 =>
  (newA 2 500 n88).bind fun n93 =>
  (putCR 11 57 l0 n93 n93 L92).bind fun L94 =>
  (putC 11 58 l0 0 n93 L94).bind fun L95 =>
  (putC 11 59 l0 0 n93 L95).bind fun L96 =>
  (putC 11 60 l0 0 n93 L96).bind fun L97 =>
  (putC 11 61 l0 0 n93 L97).bind fun L98 =>
  (newA 1 12 n93).bind fun n99 =>
  (putCR 11 62 l0 n99 n99 L98).bind fun L100 =>
  (newA 1 546 n99).bind fun n101 =>
  (putCR 11 63 l0 n101 n101 L100).bind fun L102 =>
  (newA 1 130 n101).bind fun n103 =>
  (putCR 11 64 l0 n103 n103 L102).bind fun L104 =>
  (newA 1 130 n103).bind fun n105 =>
  (putCR 11 65 l0 n105 n105 L104).bind fun L106 =>
  (newA 1 130 n105).bind fun n107 =>
  (putCR 11 66 l0 n107 n107 L106).bind fun L108 =>
  (newA 1 10 n107).bind fun n109 =>
  (putCR 11 67 l0 n109 n109 L108).bind fun L110 =>
  (newA 1 10 n109).bind fun n111 =>
  (putCR 11 68 l0 n111 n111 L110).bind fun L112 =>
  (putC 11 69 l0 0 n111 L112).bind fun L113 =>
  (putC 11 70 l0 0 n111 L113).bind fun L114 =>
  (newA 1 2 n111).bind fun n115 =>
  (putCR 11 71 l0 n115 n115 L114).bind fun L116 =>
  (putC 11 72 l0 0 n115 L116).bind fun L117 =>
  (newA 1 10 n115).bind fun n118 =>
  (putCR 11 73 l0 n118 n118 L117).bind fun L119 =>
  (newA 1 10 n118).bind fun n120 =>
  (putCR 11 74 l0 n120 n120 L119).bind fun L121 =>
  (newA 1 10240 n120).bind fun n122 =>
  (putCR 11 75 l0 n122 n122 L121).bind fun L123 =>
  (newA 1 70 n122).bind fun n124 =>
  (putCR 11 76 l0 n124 n124 L123).bind fun L125 =>
  (putC 11 77 l0 0 n124 L125).bind fun L126 =>
  (getCR 11 34 l0 n124 L126).bind fun t127 =>
  (astCI t127 0 5 n124 L126).bind fun L128 =>
  (getCR 11 28 l0 n124 L128).bind fun t129 =>
  (astCI t129 0 (-1) n124 L128).bind fun L130 =>
  (getCR 11 30 l0 n124 L130).bind fun t131 =>
  (astCI t131 0 (-1) n124 L130).bind fun L132 =>
  some (n124, L132)
set_option maxRecDepth 100000 in
set_option maxHeartbeats 4000000 in
theorem X11_init_ct {l0 n : Nat} {L : MLs} {out : Nat × MLs} (h : X11_init l0 n L = some out) : CT yX11_init cX11_init 1 none 1 48 22244 [vR l0] n (mo L) none out.1 (mo out.2) := by
  unfold X11_init at h
  refine CT.of (by decide +kernel) rfl (Nat.le_of_ble_eq_true rfl) (ls := [some (vR l0)]) rfl fun g w C hnm => ?_
  refine j_aload_n C dX11_init_0 rfl ?_
  refine j_obj C dX11_init_1 oi_X11_1 rfl (by decide) (Nat.le_of_ble_eq_true rfl) ?_
  refine j_aload_n C dX11_init_4 rfl ?_
  refine j_sipush C dX11_init_5 rfl ?_
  refine j_newarr C 1 dX11_init_8 (Or.inl ⟨rfl, rfl⟩) acI 1800 rfl (Nat.le_of_ble_eq_true rfl) (Nat.le_of_ble_eq_true rfl) h (fun n1 h => ?_)
  refine j_putCR C dX11_init_10 CF11 (by decide) fl_X11_7 rfl (Or.inr ⟨_, rfl⟩) (Or.inr ⟨rfl, hnm, rfl⟩) h (fun L2 h => ?_)
  refine j_aload_n C dX11_init_13 rfl ?_
  refine j_iconst C dX11_init_14 rfl ?_
  refine j_putCI C dX11_init_15 CF11 (by decide) fl_X11_13 rfl ⟨rfl, rfl⟩ (Or.inl rfl) h (fun L3 h => ?_)
  refine j_aload_n C dX11_init_18 rfl ?_
  refine j_iconst C dX11_init_19 rfl ?_
  refine j_putCI C dX11_init_20 CF11 (by decide) fl_X11_17 rfl ⟨rfl, rfl⟩ (Or.inl rfl) h (fun L4 h => ?_)
  refine j_aload_n C dX11_init_23 rfl ?_
  refine j_iconst C dX11_init_24 rfl ?_
  refine j_putCI C dX11_init_25 CF11 (by decide) fl_X11_20 rfl ⟨rfl, rfl⟩ (Or.inl rfl) h (fun L5 h => ?_)
  refine j_aload_n C dX11_init_28 rfl ?_
  refine j_iconst C dX11_init_29 rfl ?_
  refine j_putCI C dX11_init_30 CF11 (by decide) fl_X11_23 rfl ⟨rfl, rfl⟩ (Or.inl rfl) h (fun L6 h => ?_)
  refine j_aload_n C dX11_init_33 rfl ?_
  refine j_iconst C dX11_init_34 rfl ?_
  refine j_putCI C dX11_init_35 CF11 (by decide) fl_X11_26 rfl ⟨rfl, rfl⟩ (Or.inl rfl) h (fun L7 h => ?_)
  refine j_aload_n C dX11_init_38 rfl ?_
  refine j_iconst C dX11_init_39 rfl ?_
  refine j_putCI C dX11_init_40 CF11 (by decide) fl_X11_29 rfl ⟨rfl, rfl⟩ (Or.inl rfl) h (fun L8 h => ?_)
  refine j_aload_n C dX11_init_43 rfl ?_
  refine j_lconst (v := 0) C dX11_init_44 rfl rfl ?_
  refine j_putCL C dX11_init_45 CF11 (by decide) fl_X11_32 rfl rfl (Or.inl rfl) h (fun L9 h => ?_)
  refine j_aload_n C dX11_init_48 rfl ?_
  refine j_iconst C dX11_init_49 rfl ?_
  refine j_putCI C dX11_init_50 CF11 (by decide) fl_X11_36 rfl ⟨rfl, rfl⟩ (Or.inl rfl) h (fun L10 h => ?_)
  refine j_aload_n C dX11_init_53 rfl ?_
  refine j_iconst C dX11_init_54 rfl ?_
  refine j_putCI C dX11_init_55 CF11 (by decide) fl_X11_39 rfl ⟨rfl, rfl⟩ (Or.inl rfl) h (fun L11 h => ?_)
  refine j_aload_n C dX11_init_58 rfl ?_
  refine j_iconst C dX11_init_59 rfl ?_
  refine j_putCI C dX11_init_60 CF11 (by decide) fl_X11_42 rfl ⟨rfl, rfl⟩ (Or.inl rfl) h (fun L12 h => ?_)
  refine j_aload_n C dX11_init_63 rfl ?_
  refine j_iconst C dX11_init_64 rfl ?_
  refine j_putCI C dX11_init_65 CF11 (by decide) fl_X11_45 rfl ⟨rfl, rfl⟩ (Or.inl rfl) h (fun L13 h => ?_)
  refine j_aload_n C dX11_init_68 rfl ?_
  refine j_iconst C dX11_init_69 rfl ?_
  refine j_putCI C dX11_init_70 CF11 (by decide) fl_X11_48 rfl ⟨rfl, rfl⟩ (Or.inl rfl) h (fun L14 h => ?_)
  refine j_aload_n C dX11_init_73 rfl ?_
  refine j_iconst C dX11_init_74 rfl ?_
  refine j_putCI C dX11_init_75 CF11 (by decide) fl_X11_51 rfl ⟨rfl, rfl⟩ (Or.inl rfl) h (fun L15 h => ?_)
  refine j_aload_n C dX11_init_78 rfl ?_
  refine j_iconst C dX11_init_79 rfl ?_
  refine j_newarr C 1 dX11_init_80 (Or.inl ⟨rfl, rfl⟩) acI 2 rfl (Nat.le_of_ble_eq_true rfl) (Nat.le_of_ble_eq_true rfl) h (fun n16 h => ?_)
  refine j_putCR C dX11_init_82 CF11 (by decide) fl_X11_54 rfl (Or.inr ⟨_, rfl⟩) (Or.inr ⟨rfl, hnm, rfl⟩) h (fun L17 h => ?_)
  refine j_aload_n C dX11_init_85 rfl ?_
  refine j_iconst C dX11_init_86 rfl ?_
  refine j_newarr C 1 dX11_init_87 (Or.inl ⟨rfl, rfl⟩) acI 2 rfl (Nat.le_of_ble_eq_true rfl) (Nat.le_of_ble_eq_true rfl) h (fun n18 h => ?_)
  refine j_putCR C dX11_init_89 CF11 (by decide) fl_X11_57 rfl (Or.inr ⟨_, rfl⟩) (Or.inr ⟨rfl, hnm, rfl⟩) h (fun L19 h => ?_)
  refine j_aload_n C dX11_init_92 rfl ?_
  refine j_bipush C dX11_init_93 rfl ?_
  refine j_newarr C 1 dX11_init_95 (Or.inl ⟨rfl, rfl⟩) acI 84 rfl (Nat.le_of_ble_eq_true rfl) (Nat.le_of_ble_eq_true rfl) h (fun n20 h => ?_)
  refine j_putCR C dX11_init_97 CF11 (by decide) fl_X11_60 rfl (Or.inr ⟨_, rfl⟩) (Or.inr ⟨rfl, hnm, rfl⟩) h (fun L21 h => ?_)
  refine j_aload_n C dX11_init_100 rfl ?_
  refine j_bipush C dX11_init_101 rfl ?_
  refine j_newarr C 1 dX11_init_103 (Or.inl ⟨rfl, rfl⟩) acI 84 rfl (Nat.le_of_ble_eq_true rfl) (Nat.le_of_ble_eq_true rfl) h (fun n22 h => ?_)
  refine j_putCR C dX11_init_105 CF11 (by decide) fl_X11_63 rfl (Or.inr ⟨_, rfl⟩) (Or.inr ⟨rfl, hnm, rfl⟩) h (fun L23 h => ?_)
  refine j_aload_n C dX11_init_108 rfl ?_
  refine j_bipush C dX11_init_109 rfl ?_
  refine j_newarr C 1 dX11_init_111 (Or.inl ⟨rfl, rfl⟩) acI 84 rfl (Nat.le_of_ble_eq_true rfl) (Nat.le_of_ble_eq_true rfl) h (fun n24 h => ?_)
  refine j_putCR C dX11_init_113 CF11 (by decide) fl_X11_66 rfl (Or.inr ⟨_, rfl⟩) (Or.inr ⟨rfl, hnm, rfl⟩) h (fun L25 h => ?_)
  refine j_aload_n C dX11_init_116 rfl ?_
  refine j_iconst C dX11_init_117 rfl ?_
  refine j_newarr C 1 dX11_init_118 (Or.inl ⟨rfl, rfl⟩) acI 2 rfl (Nat.le_of_ble_eq_true rfl) (Nat.le_of_ble_eq_true rfl) h (fun n26 h => ?_)
  refine j_putCR C dX11_init_120 CF11 (by decide) fl_X11_69 rfl (Or.inr ⟨_, rfl⟩) (Or.inr ⟨rfl, hnm, rfl⟩) h (fun L27 h => ?_)
  refine j_aload_n C dX11_init_123 rfl ?_
  refine j_iconst C dX11_init_124 rfl ?_
  refine j_newarr C 1 dX11_init_125 (Or.inl ⟨rfl, rfl⟩) acI 2 rfl (Nat.le_of_ble_eq_true rfl) (Nat.le_of_ble_eq_true rfl) h (fun n28 h => ?_)
  refine j_putCR C dX11_init_127 CF11 (by decide) fl_X11_72 rfl (Or.inr ⟨_, rfl⟩) (Or.inr ⟨rfl, hnm, rfl⟩) h (fun L29 h => ?_)
  refine j_aload_n C dX11_init_130 rfl ?_
  refine j_iconst C dX11_init_131 rfl ?_
  refine j_newarr C 1 dX11_init_132 (Or.inl ⟨rfl, rfl⟩) acI 2 rfl (Nat.le_of_ble_eq_true rfl) (Nat.le_of_ble_eq_true rfl) h (fun n30 h => ?_)
  refine j_putCR C dX11_init_134 CF11 (by decide) fl_X11_75 rfl (Or.inr ⟨_, rfl⟩) (Or.inr ⟨rfl, hnm, rfl⟩) h (fun L31 h => ?_)
  refine j_aload_n C dX11_init_137 rfl ?_
  refine j_bipush C dX11_init_138 rfl ?_
  refine j_newarr C 1 dX11_init_140 (Or.inl ⟨rfl, rfl⟩) acI 10 rfl (Nat.le_of_ble_eq_true rfl) (Nat.le_of_ble_eq_true rfl) h (fun n32 h => ?_)
  refine j_putCR C dX11_init_142 CF11 (by decide) fl_X11_78 rfl (Or.inr ⟨_, rfl⟩) (Or.inr ⟨rfl, hnm, rfl⟩) h (fun L33 h => ?_)
  refine j_aload_n C dX11_init_145 rfl ?_
  refine j_iconst C dX11_init_146 rfl ?_
  refine j_newarr C 1 dX11_init_147 (Or.inl ⟨rfl, rfl⟩) acI 2 rfl (Nat.le_of_ble_eq_true rfl) (Nat.le_of_ble_eq_true rfl) h (fun n34 h => ?_)
  refine j_putCR C dX11_init_149 CF11 (by decide) fl_X11_81 rfl (Or.inr ⟨_, rfl⟩) (Or.inr ⟨rfl, hnm, rfl⟩) h (fun L35 h => ?_)
  refine j_aload_n C dX11_init_152 rfl ?_
  refine j_bipush C dX11_init_153 rfl ?_
  refine j_newarr C 1 dX11_init_155 (Or.inl ⟨rfl, rfl⟩) acI 20 rfl (Nat.le_of_ble_eq_true rfl) (Nat.le_of_ble_eq_true rfl) h (fun n36 h => ?_)
  refine j_putCR C dX11_init_157 CF11 (by decide) fl_X11_84 rfl (Or.inr ⟨_, rfl⟩) (Or.inr ⟨rfl, hnm, rfl⟩) h (fun L37 h => ?_)
  refine j_aload_n C dX11_init_160 rfl ?_
  refine j_bipush C dX11_init_161 rfl ?_
  refine j_newarr C 1 dX11_init_163 (Or.inl ⟨rfl, rfl⟩) acI 20 rfl (Nat.le_of_ble_eq_true rfl) (Nat.le_of_ble_eq_true rfl) h (fun n38 h => ?_)
  refine j_putCR C dX11_init_165 CF11 (by decide) fl_X11_87 rfl (Or.inr ⟨_, rfl⟩) (Or.inr ⟨rfl, hnm, rfl⟩) h (fun L39 h => ?_)
  refine j_aload_n C dX11_init_168 rfl ?_
  refine j_bipush C dX11_init_169 rfl ?_
  refine j_newarr C 1 dX11_init_171 (Or.inl ⟨rfl, rfl⟩) acI 20 rfl (Nat.le_of_ble_eq_true rfl) (Nat.le_of_ble_eq_true rfl) h (fun n40 h => ?_)
  refine j_putCR C dX11_init_173 CF11 (by decide) fl_X11_90 rfl (Or.inr ⟨_, rfl⟩) (Or.inr ⟨rfl, hnm, rfl⟩) h (fun L41 h => ?_)
  refine j_aload_n C dX11_init_176 rfl ?_
  refine j_bipush C dX11_init_177 rfl ?_
  refine j_newarr C 1 dX11_init_179 (Or.inl ⟨rfl, rfl⟩) acI 24 rfl (Nat.le_of_ble_eq_true rfl) (Nat.le_of_ble_eq_true rfl) h (fun n42 h => ?_)
  refine j_putCR C dX11_init_181 CF11 (by decide) fl_X11_93 rfl (Or.inr ⟨_, rfl⟩) (Or.inr ⟨rfl, hnm, rfl⟩) h (fun L43 h => ?_)
  refine j_aload_n C dX11_init_184 rfl ?_
  refine j_iconst C dX11_init_185 rfl ?_
  refine j_newarr C 1 dX11_init_186 (Or.inl ⟨rfl, rfl⟩) acI 2 rfl (Nat.le_of_ble_eq_true rfl) (Nat.le_of_ble_eq_true rfl) h (fun n44 h => ?_)
  refine j_putCR C dX11_init_188 CF11 (by decide) fl_X11_96 rfl (Or.inr ⟨_, rfl⟩) (Or.inr ⟨rfl, hnm, rfl⟩) h (fun L45 h => ?_)
  refine j_aload_n C dX11_init_191 rfl ?_
  refine j_iconst C dX11_init_192 rfl ?_
  refine j_newarr C 1 dX11_init_193 (Or.inl ⟨rfl, rfl⟩) acI 2 rfl (Nat.le_of_ble_eq_true rfl) (Nat.le_of_ble_eq_true rfl) h (fun n46 h => ?_)
  refine j_putCR C dX11_init_195 CF11 (by decide) fl_X11_99 rfl (Or.inr ⟨_, rfl⟩) (Or.inr ⟨rfl, hnm, rfl⟩) h (fun L47 h => ?_)
  refine j_aload_n C dX11_init_198 rfl ?_
  refine j_iconst C dX11_init_199 rfl ?_
  refine j_newarr C 1 dX11_init_200 (Or.inl ⟨rfl, rfl⟩) acI 2 rfl (Nat.le_of_ble_eq_true rfl) (Nat.le_of_ble_eq_true rfl) h (fun n48 h => ?_)
  refine j_putCR C dX11_init_202 CF11 (by decide) fl_X11_102 rfl (Or.inr ⟨_, rfl⟩) (Or.inr ⟨rfl, hnm, rfl⟩) h (fun L49 h => ?_)
  refine j_aload_n C dX11_init_205 rfl ?_
  refine j_iconst C dX11_init_206 rfl ?_
  refine j_newarr C 1 dX11_init_207 (Or.inl ⟨rfl, rfl⟩) acI 2 rfl (Nat.le_of_ble_eq_true rfl) (Nat.le_of_ble_eq_true rfl) h (fun n50 h => ?_)
  refine j_putCR C dX11_init_209 CF11 (by decide) fl_X11_105 rfl (Or.inr ⟨_, rfl⟩) (Or.inr ⟨rfl, hnm, rfl⟩) h (fun L51 h => ?_)
  refine j_aload_n C dX11_init_212 rfl ?_
  refine j_iconst C dX11_init_213 rfl ?_
  refine j_newarr C 1 dX11_init_214 (Or.inl ⟨rfl, rfl⟩) acI 2 rfl (Nat.le_of_ble_eq_true rfl) (Nat.le_of_ble_eq_true rfl) h (fun n52 h => ?_)
  refine j_putCR C dX11_init_216 CF11 (by decide) fl_X11_108 rfl (Or.inr ⟨_, rfl⟩) (Or.inr ⟨rfl, hnm, rfl⟩) h (fun L53 h => ?_)
  refine j_aload_n C dX11_init_219 rfl ?_
  refine j_iconst C dX11_init_220 rfl ?_
  refine j_newarr C 1 dX11_init_221 (Or.inl ⟨rfl, rfl⟩) acI 2 rfl (Nat.le_of_ble_eq_true rfl) (Nat.le_of_ble_eq_true rfl) h (fun n54 h => ?_)
  refine j_putCR C dX11_init_223 CF11 (by decide) fl_X11_111 rfl (Or.inr ⟨_, rfl⟩) (Or.inr ⟨rfl, hnm, rfl⟩) h (fun L55 h => ?_)
  refine j_aload_n C dX11_init_226 rfl ?_
  refine j_iconst C dX11_init_227 rfl ?_
  refine j_newarr C 1 dX11_init_228 (Or.inl ⟨rfl, rfl⟩) acI 2 rfl (Nat.le_of_ble_eq_true rfl) (Nat.le_of_ble_eq_true rfl) h (fun n56 h => ?_)
  refine j_putCR C dX11_init_230 CF11 (by decide) fl_X11_114 rfl (Or.inr ⟨_, rfl⟩) (Or.inr ⟨rfl, hnm, rfl⟩) h (fun L57 h => ?_)
  refine j_aload_n C dX11_init_233 rfl ?_
  refine j_sipush C dX11_init_234 rfl ?_
  refine j_newarr C 1 dX11_init_237 (Or.inl ⟨rfl, rfl⟩) acI 3200 rfl (Nat.le_of_ble_eq_true rfl) (Nat.le_of_ble_eq_true rfl) h (fun n58 h => ?_)
  refine j_putCR C dX11_init_239 CF11 (by decide) fl_X11_117 rfl (Or.inr ⟨_, rfl⟩) (Or.inr ⟨rfl, hnm, rfl⟩) h (fun L59 h => ?_)
  refine j_aload_n C dX11_init_242 rfl ?_
  refine j_sipush C dX11_init_243 rfl ?_
  refine j_newarr C 1 dX11_init_246 (Or.inl ⟨rfl, rfl⟩) acI 3200 rfl (Nat.le_of_ble_eq_true rfl) (Nat.le_of_ble_eq_true rfl) h (fun n60 h => ?_)
  refine j_putCR C dX11_init_248 CF11 (by decide) fl_X11_120 rfl (Or.inr ⟨_, rfl⟩) (Or.inr ⟨rfl, hnm, rfl⟩) h (fun L61 h => ?_)
  refine j_aload_n C dX11_init_251 rfl ?_
  refine j_bipush C dX11_init_252 rfl ?_
  refine j_newarr C 2 dX11_init_254 (Or.inr ⟨rfl, rfl⟩) acL 10 rfl (Nat.le_of_ble_eq_true rfl) (Nat.le_of_ble_eq_true rfl) h (fun n62 h => ?_)
  refine j_putCR C dX11_init_256 CF11 (by decide) fl_X11_123 rfl (Or.inr ⟨_, rfl⟩) (Or.inr ⟨rfl, hnm, rfl⟩) h (fun L63 h => ?_)
  refine j_aload_n C dX11_init_259 rfl ?_
  refine j_bipush C dX11_init_260 rfl ?_
  refine j_newarr C 2 dX11_init_262 (Or.inr ⟨rfl, rfl⟩) acL 20 rfl (Nat.le_of_ble_eq_true rfl) (Nat.le_of_ble_eq_true rfl) h (fun n64 h => ?_)
  refine j_putCR C dX11_init_264 CF11 (by decide) fl_X11_127 rfl (Or.inr ⟨_, rfl⟩) (Or.inr ⟨rfl, hnm, rfl⟩) h (fun L65 h => ?_)
  refine j_aload_n C dX11_init_267 rfl ?_
  refine j_iconst C dX11_init_268 rfl ?_
  refine j_putCI C dX11_init_269 CF11 (by decide) fl_X11_130 rfl ⟨rfl, rfl⟩ (Or.inl rfl) h (fun L66 h => ?_)
  refine j_aload_n C dX11_init_272 rfl ?_
  refine j_iconst C dX11_init_273 rfl ?_
  refine j_putCI C dX11_init_274 CF11 (by decide) fl_X11_133 rfl ⟨rfl, rfl⟩ (Or.inl rfl) h (fun L67 h => ?_)
  refine j_aload_n C dX11_init_277 rfl ?_
  refine j_bipush C dX11_init_278 rfl ?_
  refine j_newarr C 1 dX11_init_280 (Or.inl ⟨rfl, rfl⟩) acI 20 rfl (Nat.le_of_ble_eq_true rfl) (Nat.le_of_ble_eq_true rfl) h (fun n68 h => ?_)
  refine j_putCR C dX11_init_282 CF11 (by decide) fl_X11_136 rfl (Or.inr ⟨_, rfl⟩) (Or.inr ⟨rfl, hnm, rfl⟩) h (fun L69 h => ?_)
  refine j_aload_n C dX11_init_285 rfl ?_
  refine j_bipush C dX11_init_286 rfl ?_
  refine j_newarr C 1 dX11_init_288 (Or.inl ⟨rfl, rfl⟩) acI 20 rfl (Nat.le_of_ble_eq_true rfl) (Nat.le_of_ble_eq_true rfl) h (fun n70 h => ?_)
  refine j_putCR C dX11_init_290 CF11 (by decide) fl_X11_139 rfl (Or.inr ⟨_, rfl⟩) (Or.inr ⟨rfl, hnm, rfl⟩) h (fun L71 h => ?_)
  refine j_aload_n C dX11_init_293 rfl ?_
  refine j_bipush C dX11_init_294 rfl ?_
  refine j_newarr C 1 dX11_init_296 (Or.inl ⟨rfl, rfl⟩) acI 20 rfl (Nat.le_of_ble_eq_true rfl) (Nat.le_of_ble_eq_true rfl) h (fun n72 h => ?_)
  refine j_putCR C dX11_init_298 CF11 (by decide) fl_X11_142 rfl (Or.inr ⟨_, rfl⟩) (Or.inr ⟨rfl, hnm, rfl⟩) h (fun L73 h => ?_)
  refine j_aload_n C dX11_init_301 rfl ?_
  refine j_iconst C dX11_init_302 rfl ?_
  refine j_putCI C dX11_init_303 CF11 (by decide) fl_X11_145 rfl ⟨rfl, rfl⟩ (Or.inl rfl) h (fun L74 h => ?_)
  refine j_aload_n C dX11_init_306 rfl ?_
  refine j_iconst C dX11_init_307 rfl ?_
  refine j_putCI C dX11_init_308 CF11 (by decide) fl_X11_148 rfl ⟨rfl, rfl⟩ (Or.inl rfl) h (fun L75 h => ?_)
  refine j_aload_n C dX11_init_311 rfl ?_
  refine j_sipush C dX11_init_312 rfl ?_
  refine j_newarr C 1 dX11_init_315 (Or.inl ⟨rfl, rfl⟩) acI 500 rfl (Nat.le_of_ble_eq_true rfl) (Nat.le_of_ble_eq_true rfl) h (fun n76 h => ?_)
  refine j_putCR C dX11_init_317 CF11 (by decide) fl_X11_151 rfl (Or.inr ⟨_, rfl⟩) (Or.inr ⟨rfl, hnm, rfl⟩) h (fun L77 h => ?_)
  refine j_aload_n C dX11_init_320 rfl ?_
  refine j_iconst C dX11_init_321 rfl ?_
  refine j_putCI C dX11_init_322 CF11 (by decide) fl_X11_154 rfl ⟨rfl, rfl⟩ (Or.inl rfl) h (fun L78 h => ?_)
  refine j_aload_n C dX11_init_325 rfl ?_
  refine j_iconst C dX11_init_326 rfl ?_
  refine j_putCI C dX11_init_327 CF11 (by decide) fl_X11_157 rfl ⟨rfl, rfl⟩ (Or.inl rfl) h (fun L79 h => ?_)
  refine j_aload_n C dX11_init_330 rfl ?_
  refine j_bipush C dX11_init_331 rfl ?_
  refine j_newarr C 1 dX11_init_333 (Or.inl ⟨rfl, rfl⟩) acI 6 rfl (Nat.le_of_ble_eq_true rfl) (Nat.le_of_ble_eq_true rfl) h (fun n80 h => ?_)
  refine j_putCR C dX11_init_335 CF11 (by decide) fl_X11_161 rfl (Or.inr ⟨_, rfl⟩) (Or.inr ⟨rfl, hnm, rfl⟩) h (fun L81 h => ?_)
  refine j_aload_n C dX11_init_338 rfl ?_
  refine j_bipush C dX11_init_339 rfl ?_
  refine j_newarr C 1 dX11_init_341 (Or.inl ⟨rfl, rfl⟩) acI 22 rfl (Nat.le_of_ble_eq_true rfl) (Nat.le_of_ble_eq_true rfl) h (fun n82 h => ?_)
  refine j_putCR C dX11_init_343 CF11 (by decide) fl_X11_164 rfl (Or.inr ⟨_, rfl⟩) (Or.inr ⟨rfl, hnm, rfl⟩) h (fun L83 h => ?_)
  refine j_aload_n C dX11_init_346 rfl ?_
  refine j_sipush C dX11_init_347 rfl ?_
  refine j_newarr C 1 dX11_init_350 (Or.inl ⟨rfl, rfl⟩) acI 924 rfl (Nat.le_of_ble_eq_true rfl) (Nat.le_of_ble_eq_true rfl) h (fun n84 h => ?_)
  refine j_putCR C dX11_init_352 CF11 (by decide) fl_X11_167 rfl (Or.inr ⟨_, rfl⟩) (Or.inr ⟨rfl, hnm, rfl⟩) h (fun L85 h => ?_)
  refine j_aload_n C dX11_init_355 rfl ?_
  refine j_sipush C dX11_init_356 rfl ?_
  refine j_newarr C 1 dX11_init_359 (Or.inl ⟨rfl, rfl⟩) acI 220 rfl (Nat.le_of_ble_eq_true rfl) (Nat.le_of_ble_eq_true rfl) h (fun n86 h => ?_)
  refine j_putCR C dX11_init_361 CF11 (by decide) fl_X11_170 rfl (Or.inr ⟨_, rfl⟩) (Or.inr ⟨rfl, hnm, rfl⟩) h (fun L87 h => ?_)
  refine j_aload_n C dX11_init_364 rfl ?_
  refine j_bipush C dX11_init_365 rfl ?_
  refine j_newarr C 1 dX11_init_367 (Or.inl ⟨rfl, rfl⟩) acI 110 rfl (Nat.le_of_ble_eq_true rfl) (Nat.le_of_ble_eq_true rfl) h (fun n88 h => ?_)
  refine j_putCR C dX11_init_369 CF11 (by decide) fl_X11_173 rfl (Or.inr ⟨_, rfl⟩) (Or.inr ⟨rfl, hnm, rfl⟩) h (fun L89 h => ?_)
  refine j_aload_n C dX11_init_372 rfl ?_
  refine j_iconst C dX11_init_373 rfl ?_
  refine j_putCI C dX11_init_374 CF11 (by decide) fl_X11_176 rfl ⟨rfl, rfl⟩ (Or.inl rfl) h (fun L90 h => ?_)
  refine j_aload_n C dX11_init_377 rfl ?_
  refine j_iconst C dX11_init_378 rfl ?_
  refine j_putCI C dX11_init_379 CF11 (by decide) fl_X11_179 rfl ⟨rfl, rfl⟩ (Or.inl rfl) h (fun L91 h => ?_)
  refine j_aload_n C dX11_init_382 rfl ?_
  refine j_lconst (v := 1) C dX11_init_383 rfl rfl ?_
  refine j_putCL C dX11_init_384 CF11 (by decide) fl_X11_182 rfl rfl (Or.inl rfl) h (fun L92 h => ?_)
  refine j_aload_n C dX11_init_387 rfl ?_
  refine j_sipush C dX11_init_388 rfl ?_
  refine j_newarr C 2 dX11_init_391 (Or.inr ⟨rfl, rfl⟩) acL 500 rfl (Nat.le_of_ble_eq_true rfl) (Nat.le_of_ble_eq_true rfl) h (fun n93 h => ?_)
  refine j_putCR C dX11_init_393 CF11 (by decide) fl_X11_185 rfl (Or.inr ⟨_, rfl⟩) (Or.inr ⟨rfl, hnm, rfl⟩) h (fun L94 h => ?_)
  refine j_aload_n C dX11_init_396 rfl ?_
  refine j_iconst C dX11_init_397 rfl ?_
  refine j_putCI C dX11_init_398 CF11 (by decide) fl_X11_188 rfl ⟨rfl, rfl⟩ (Or.inl rfl) h (fun L95 h => ?_)
  refine j_aload_n C dX11_init_401 rfl ?_
  refine j_iconst C dX11_init_402 rfl ?_
  refine j_putCI C dX11_init_403 CF11 (by decide) fl_X11_191 rfl ⟨rfl, rfl⟩ (Or.inl rfl) h (fun L96 h => ?_)
  refine j_aload_n C dX11_init_406 rfl ?_
  refine j_iconst C dX11_init_407 rfl ?_
  refine j_putCI C dX11_init_408 CF11 (by decide) fl_X11_194 rfl ⟨rfl, rfl⟩ (Or.inl rfl) h (fun L97 h => ?_)
  refine j_aload_n C dX11_init_411 rfl ?_
  refine j_iconst C dX11_init_412 rfl ?_
  refine j_putCI C dX11_init_413 CF11 (by decide) fl_X11_197 rfl ⟨rfl, rfl⟩ (Or.inl rfl) h (fun L98 h => ?_)
  refine j_aload_n C dX11_init_416 rfl ?_
  refine j_bipush C dX11_init_417 rfl ?_
  refine j_newarr C 1 dX11_init_419 (Or.inl ⟨rfl, rfl⟩) acI 12 rfl (Nat.le_of_ble_eq_true rfl) (Nat.le_of_ble_eq_true rfl) h (fun n99 h => ?_)
  refine j_putCR C dX11_init_421 CF11 (by decide) fl_X11_200 rfl (Or.inr ⟨_, rfl⟩) (Or.inr ⟨rfl, hnm, rfl⟩) h (fun L100 h => ?_)
  refine j_aload_n C dX11_init_424 rfl ?_
  refine j_sipush C dX11_init_425 rfl ?_
  refine j_newarr C 1 dX11_init_428 (Or.inl ⟨rfl, rfl⟩) acI 546 rfl (Nat.le_of_ble_eq_true rfl) (Nat.le_of_ble_eq_true rfl) h (fun n101 h => ?_)
  refine j_putCR C dX11_init_430 CF11 (by decide) fl_X11_203 rfl (Or.inr ⟨_, rfl⟩) (Or.inr ⟨rfl, hnm, rfl⟩) h (fun L102 h => ?_)
  refine j_aload_n C dX11_init_433 rfl ?_
  refine j_sipush C dX11_init_434 rfl ?_
  refine j_newarr C 1 dX11_init_437 (Or.inl ⟨rfl, rfl⟩) acI 130 rfl (Nat.le_of_ble_eq_true rfl) (Nat.le_of_ble_eq_true rfl) h (fun n103 h => ?_)
  refine j_putCR C dX11_init_439 CF11 (by decide) fl_X11_206 rfl (Or.inr ⟨_, rfl⟩) (Or.inr ⟨rfl, hnm, rfl⟩) h (fun L104 h => ?_)
  refine j_aload_n C dX11_init_442 rfl ?_
  refine j_sipush C dX11_init_443 rfl ?_
  refine j_newarr C 1 dX11_init_446 (Or.inl ⟨rfl, rfl⟩) acI 130 rfl (Nat.le_of_ble_eq_true rfl) (Nat.le_of_ble_eq_true rfl) h (fun n105 h => ?_)
  refine j_putCR C dX11_init_448 CF11 (by decide) fl_X11_209 rfl (Or.inr ⟨_, rfl⟩) (Or.inr ⟨rfl, hnm, rfl⟩) h (fun L106 h => ?_)
  refine j_aload_n C dX11_init_451 rfl ?_
  refine j_sipush C dX11_init_452 rfl ?_
  refine j_newarr C 1 dX11_init_455 (Or.inl ⟨rfl, rfl⟩) acI 130 rfl (Nat.le_of_ble_eq_true rfl) (Nat.le_of_ble_eq_true rfl) h (fun n107 h => ?_)
  refine j_putCR C dX11_init_457 CF11 (by decide) fl_X11_212 rfl (Or.inr ⟨_, rfl⟩) (Or.inr ⟨rfl, hnm, rfl⟩) h (fun L108 h => ?_)
  refine j_aload_n C dX11_init_460 rfl ?_
  refine j_bipush C dX11_init_461 rfl ?_
  refine j_newarr C 1 dX11_init_463 (Or.inl ⟨rfl, rfl⟩) acI 10 rfl (Nat.le_of_ble_eq_true rfl) (Nat.le_of_ble_eq_true rfl) h (fun n109 h => ?_)
  refine j_putCR C dX11_init_465 CF11 (by decide) fl_X11_215 rfl (Or.inr ⟨_, rfl⟩) (Or.inr ⟨rfl, hnm, rfl⟩) h (fun L110 h => ?_)
  refine j_aload_n C dX11_init_468 rfl ?_
  refine j_bipush C dX11_init_469 rfl ?_
  refine j_newarr C 1 dX11_init_471 (Or.inl ⟨rfl, rfl⟩) acI 10 rfl (Nat.le_of_ble_eq_true rfl) (Nat.le_of_ble_eq_true rfl) h (fun n111 h => ?_)
  refine j_putCR C dX11_init_473 CF11 (by decide) fl_X11_218 rfl (Or.inr ⟨_, rfl⟩) (Or.inr ⟨rfl, hnm, rfl⟩) h (fun L112 h => ?_)
  refine j_aload_n C dX11_init_476 rfl ?_
  refine j_iconst C dX11_init_477 rfl ?_
  refine j_putCI C dX11_init_478 CF11 (by decide) fl_X11_221 rfl ⟨rfl, rfl⟩ (Or.inl rfl) h (fun L113 h => ?_)
  refine j_aload_n C dX11_init_481 rfl ?_
  refine j_iconst C dX11_init_482 rfl ?_
  refine j_putCI C dX11_init_483 CF11 (by decide) fl_X11_224 rfl ⟨rfl, rfl⟩ (Or.inl rfl) h (fun L114 h => ?_)
  refine j_aload_n C dX11_init_486 rfl ?_
  refine j_iconst C dX11_init_487 rfl ?_
  refine j_newarr C 1 dX11_init_488 (Or.inl ⟨rfl, rfl⟩) acI 2 rfl (Nat.le_of_ble_eq_true rfl) (Nat.le_of_ble_eq_true rfl) h (fun n115 h => ?_)
  refine j_putCR C dX11_init_490 CF11 (by decide) fl_X11_227 rfl (Or.inr ⟨_, rfl⟩) (Or.inr ⟨rfl, hnm, rfl⟩) h (fun L116 h => ?_)
  refine j_aload_n C dX11_init_493 rfl ?_
  refine j_iconst C dX11_init_494 rfl ?_
  refine j_putCI C dX11_init_495 CF11 (by decide) fl_X11_230 rfl ⟨rfl, rfl⟩ (Or.inl rfl) h (fun L117 h => ?_)
  refine j_aload_n C dX11_init_498 rfl ?_
  refine j_bipush C dX11_init_499 rfl ?_
  refine j_newarr C 1 dX11_init_501 (Or.inl ⟨rfl, rfl⟩) acI 10 rfl (Nat.le_of_ble_eq_true rfl) (Nat.le_of_ble_eq_true rfl) h (fun n118 h => ?_)
  refine j_putCR C dX11_init_503 CF11 (by decide) fl_X11_233 rfl (Or.inr ⟨_, rfl⟩) (Or.inr ⟨rfl, hnm, rfl⟩) h (fun L119 h => ?_)
  refine j_aload_n C dX11_init_506 rfl ?_
  refine j_bipush C dX11_init_507 rfl ?_
  refine j_newarr C 1 dX11_init_509 (Or.inl ⟨rfl, rfl⟩) acI 10 rfl (Nat.le_of_ble_eq_true rfl) (Nat.le_of_ble_eq_true rfl) h (fun n120 h => ?_)
  refine j_putCR C dX11_init_511 CF11 (by decide) fl_X11_236 rfl (Or.inr ⟨_, rfl⟩) (Or.inr ⟨rfl, hnm, rfl⟩) h (fun L121 h => ?_)
  refine j_aload_n C dX11_init_514 rfl ?_
  refine j_sipush C dX11_init_515 rfl ?_
  refine j_newarr C 1 dX11_init_518 (Or.inl ⟨rfl, rfl⟩) acI 10240 rfl (Nat.le_of_ble_eq_true rfl) (Nat.le_of_ble_eq_true rfl) h (fun n122 h => ?_)
  refine j_putCR C dX11_init_520 CF11 (by decide) fl_X11_239 rfl (Or.inr ⟨_, rfl⟩) (Or.inr ⟨rfl, hnm, rfl⟩) h (fun L123 h => ?_)
  refine j_aload_n C dX11_init_523 rfl ?_
  refine j_bipush C dX11_init_524 rfl ?_
  refine j_newarr C 1 dX11_init_526 (Or.inl ⟨rfl, rfl⟩) acI 70 rfl (Nat.le_of_ble_eq_true rfl) (Nat.le_of_ble_eq_true rfl) h (fun n124 h => ?_)
  refine j_putCR C dX11_init_528 CF11 (by decide) fl_X11_242 rfl (Or.inr ⟨_, rfl⟩) (Or.inr ⟨rfl, hnm, rfl⟩) h (fun L125 h => ?_)
  refine j_aload_n C dX11_init_531 rfl ?_
  refine j_iconst C dX11_init_532 rfl ?_
  refine j_putCI C dX11_init_533 CF11 (by decide) fl_X11_245 rfl ⟨rfl, rfl⟩ (Or.inl rfl) h (fun L126 h => ?_)
  refine j_aload_n C dX11_init_536 rfl ?_
  refine j_getCR C dX11_init_537 CF11 (by decide) fl_X11_114 rfl h (fun t127 h => ?_)
  refine j_iconst C dX11_init_540 rfl ?_
  refine j_iconst C dX11_init_541 rfl ?_
  refine j_astCI C dX11_init_542 h (fun L128 h => ?_)
  refine j_aload_n C dX11_init_543 rfl ?_
  refine j_getCR C dX11_init_544 CF11 (by decide) fl_X11_96 rfl h (fun t129 h => ?_)
  refine j_iconst C dX11_init_547 rfl ?_
  refine j_iconst C dX11_init_548 rfl ?_
  refine j_astCI C dX11_init_549 h (fun L130 h => ?_)
  refine j_aload_n C dX11_init_550 rfl ?_
  refine j_getCR C dX11_init_551 CF11 (by decide) fl_X11_102 rfl h (fun t131 h => ?_)
  refine j_iconst C dX11_init_554 rfl ?_
  refine j_iconst C dX11_init_555 rfl ?_
  refine j_astCI C dX11_init_556 h (fun L132 h => ?_)
  have e := Option.some.inj h
  subst e
  exact j_vret C dX11_init_557 rfl (Nat.le_of_ble_eq_true rfl) (Nat.le_of_ble_eq_true rfl) rfl rfl rfl
