theorem acI : Cond.arrayClass (newarray.typeOf .int) ∈ tb := tbi_1 (i := 112) rfl rfl
theorem acL : Cond.arrayClass (newarray.typeOf .long) ∈ tb := tbi_1 (i := 113) rfl rfl
theorem df0 : ∀ j, j < 10 → defaultValue (tyX0 j) = fcv ((fun _ => 0, fun _ _ => 0), fun _ => 0, fun _ => 0, 0) (fk 0 j) 0 := by
  intro j hj
  rcases (by omega : j = 0 ∨ j = 1 ∨ j = 2 ∨ j = 3 ∨ j = 4 ∨ j = 5 ∨ j = 6 ∨ j = 7 ∨ j = 8 ∨ j = 9) with rfl | rfl | rfl | rfl | rfl | rfl | rfl | rfl | rfl | rfl <;> rfl
theorem df1 : ∀ j, j < 4 → defaultValue (tyX1 j) = fcv ((fun _ => 0, fun _ _ => 0), fun _ => 0, fun _ => 0, 0) (fk 1 j) 0 := by
  intro j hj
  rcases (by omega : j = 0 ∨ j = 1 ∨ j = 2 ∨ j = 3) with rfl | rfl | rfl | rfl <;> rfl
theorem df2 : ∀ j, j < 5 → defaultValue (tyX2 j) = fcv ((fun _ => 0, fun _ _ => 0), fun _ => 0, fun _ => 0, 0) (fk 2 j) 0 := by
  intro j hj
  rcases (by omega : j = 0 ∨ j = 1 ∨ j = 2 ∨ j = 3 ∨ j = 4) with rfl | rfl | rfl | rfl | rfl <;> rfl
theorem df3 : ∀ j, j < 9 → defaultValue (tyX3 j) = fcv ((fun _ => 0, fun _ _ => 0), fun _ => 0, fun _ => 0, 0) (fk 3 j) 0 := by
  intro j hj
  rcases (by omega : j = 0 ∨ j = 1 ∨ j = 2 ∨ j = 3 ∨ j = 4 ∨ j = 5 ∨ j = 6 ∨ j = 7 ∨ j = 8) with rfl | rfl | rfl | rfl | rfl | rfl | rfl | rfl | rfl <;> rfl
theorem df4 : ∀ j, j < 3 → defaultValue (tyX4 j) = fcv ((fun _ => 0, fun _ _ => 0), fun _ => 0, fun _ => 0, 0) (fk 4 j) 0 := by
  intro j hj
  rcases (by omega : j = 0 ∨ j = 1 ∨ j = 2) with rfl | rfl | rfl <;> rfl
theorem df5 : ∀ j, j < 20 → defaultValue (tyX5 j) = fcv ((fun _ => 0, fun _ _ => 0), fun _ => 0, fun _ => 0, 0) (fk 5 j) 0 := by
  intro j hj
  rcases (by omega : j = 0 ∨ j = 1 ∨ j = 2 ∨ j = 3 ∨ j = 4 ∨ j = 5 ∨ j = 6 ∨ j = 7 ∨ j = 8 ∨ j = 9 ∨ j = 10 ∨ j = 11 ∨ j = 12 ∨ j = 13 ∨ j = 14 ∨ j = 15 ∨ j = 16 ∨ j = 17 ∨ j = 18 ∨ j = 19) with rfl | rfl | rfl | rfl | rfl | rfl | rfl | rfl | rfl | rfl | rfl | rfl | rfl | rfl | rfl | rfl | rfl | rfl | rfl | rfl <;> rfl
theorem df6 : ∀ j, j < 12 → defaultValue (tyX6 j) = fcv ((fun _ => 0, fun _ _ => 0), fun _ => 0, fun _ => 0, 0) (fk 6 j) 0 := by
  intro j hj
  rcases (by omega : j = 0 ∨ j = 1 ∨ j = 2 ∨ j = 3 ∨ j = 4 ∨ j = 5 ∨ j = 6 ∨ j = 7 ∨ j = 8 ∨ j = 9 ∨ j = 10 ∨ j = 11) with rfl | rfl | rfl | rfl | rfl | rfl | rfl | rfl | rfl | rfl | rfl | rfl <;> rfl
theorem df7 : ∀ j, j < 6 → defaultValue (tyX7 j) = fcv ((fun _ => 0, fun _ _ => 0), fun _ => 0, fun _ => 0, 0) (fk 7 j) 0 := by
  intro j hj
  rcases (by omega : j = 0 ∨ j = 1 ∨ j = 2 ∨ j = 3 ∨ j = 4 ∨ j = 5) with rfl | rfl | rfl | rfl | rfl | rfl <;> rfl
theorem df8 : ∀ j, j < 5 → defaultValue (tyX8 j) = fcv ((fun _ => 0, fun _ _ => 0), fun _ => 0, fun _ => 0, 0) (fk 8 j) 0 := by
  intro j hj
  rcases (by omega : j = 0 ∨ j = 1 ∨ j = 2 ∨ j = 3 ∨ j = 4) with rfl | rfl | rfl | rfl | rfl <;> rfl
theorem df9 : ∀ j, j < 5 → defaultValue (tyX9 j) = fcv ((fun _ => 0, fun _ _ => 0), fun _ => 0, fun _ => 0, 0) (fk 9 j) 0 := by
  intro j hj
  rcases (by omega : j = 0 ∨ j = 1 ∨ j = 2 ∨ j = 3 ∨ j = 4) with rfl | rfl | rfl | rfl | rfl <;> rfl
theorem df10 : ∀ j, j < 19 → defaultValue (tyX10 j) = fcv ((fun _ => 0, fun _ _ => 0), fun _ => 0, fun _ => 0, 0) (fk 10 j) 0 := by
  intro j hj
  rcases (by omega : j = 0 ∨ j = 1 ∨ j = 2 ∨ j = 3 ∨ j = 4 ∨ j = 5 ∨ j = 6 ∨ j = 7 ∨ j = 8 ∨ j = 9 ∨ j = 10 ∨ j = 11 ∨ j = 12 ∨ j = 13 ∨ j = 14 ∨ j = 15 ∨ j = 16 ∨ j = 17 ∨ j = 18) with rfl | rfl | rfl | rfl | rfl | rfl | rfl | rfl | rfl | rfl | rfl | rfl | rfl | rfl | rfl | rfl | rfl | rfl | rfl <;> rfl
theorem df11 : ∀ j, j < 78 → defaultValue (tyX11 j) = fcv ((fun _ => 0, fun _ _ => 0), fun _ => 0, fun _ => 0, 0) (fk 11 j) 0 := by
  intro j hj
  rcases (by omega : j = 0 ∨ j = 1 ∨ j = 2 ∨ j = 3 ∨ j = 4 ∨ j = 5 ∨ j = 6 ∨ j = 7 ∨ j = 8 ∨ j = 9 ∨ j = 10 ∨ j = 11 ∨ j = 12 ∨ j = 13 ∨ j = 14 ∨ j = 15 ∨ j = 16 ∨ j = 17 ∨ j = 18 ∨ j = 19 ∨ j = 20 ∨ j = 21 ∨ j = 22 ∨ j = 23 ∨ j = 24 ∨ j = 25 ∨ j = 26 ∨ j = 27 ∨ j = 28 ∨ j = 29 ∨ j = 30 ∨ j = 31 ∨ j = 32 ∨ j = 33 ∨ j = 34 ∨ j = 35 ∨ j = 36 ∨ j = 37 ∨ j = 38 ∨ j = 39 ∨ j = 40 ∨ j = 41 ∨ j = 42 ∨ j = 43 ∨ j = 44 ∨ j = 45 ∨ j = 46 ∨ j = 47 ∨ j = 48 ∨ j = 49 ∨ j = 50 ∨ j = 51 ∨ j = 52 ∨ j = 53 ∨ j = 54 ∨ j = 55 ∨ j = 56 ∨ j = 57 ∨ j = 58 ∨ j = 59 ∨ j = 60 ∨ j = 61 ∨ j = 62 ∨ j = 63 ∨ j = 64 ∨ j = 65 ∨ j = 66 ∨ j = 67 ∨ j = 68 ∨ j = 69 ∨ j = 70 ∨ j = 71 ∨ j = 72 ∨ j = 73 ∨ j = 74 ∨ j = 75 ∨ j = 76 ∨ j = 77) with rfl | rfl | rfl | rfl | rfl | rfl | rfl | rfl | rfl | rfl | rfl | rfl | rfl | rfl | rfl | rfl | rfl | rfl | rfl | rfl | rfl | rfl | rfl | rfl | rfl | rfl | rfl | rfl | rfl | rfl | rfl | rfl | rfl | rfl | rfl | rfl | rfl | rfl | rfl | rfl | rfl | rfl | rfl | rfl | rfl | rfl | rfl | rfl | rfl | rfl | rfl | rfl | rfl | rfl | rfl | rfl | rfl | rfl | rfl | rfl | rfl | rfl | rfl | rfl | rfl | rfl | rfl | rfl | rfl | rfl | rfl | rfl | rfl | rfl | rfl | rfl | rfl | rfl <;> rfl
theorem oi_X1_3 : Cond.methodLink RX1 3 Lib.objectInit ∈ tb ∧ Cond.instanceMethod Lib.objectInit ∈ tb ∧ Cond.code Lib.objectInit ⟨#[0xb1]⟩ 1 none ∈ tb := ⟨tbi_1 (i := 168) rfl rfl, tbi_1 (i := 27) rfl rfl, tbi_1 (i := 28) rfl rfl⟩
theorem oi_X7_3 : Cond.methodLink RX7 3 Lib.objectInit ∈ tb ∧ Cond.instanceMethod Lib.objectInit ∈ tb ∧ Cond.code Lib.objectInit ⟨#[0xb1]⟩ 1 none ∈ tb := ⟨tbi_1 (i := 196) rfl rfl, tbi_1 (i := 27) rfl rfl, tbi_1 (i := 28) rfl rfl⟩
theorem oi_X5_3 : Cond.methodLink RX5 3 Lib.objectInit ∈ tb ∧ Cond.instanceMethod Lib.objectInit ∈ tb ∧ Cond.code Lib.objectInit ⟨#[0xb1]⟩ 1 none ∈ tb := ⟨tbi_1 (i := 160) rfl rfl, tbi_1 (i := 27) rfl rfl, tbi_1 (i := 28) rfl rfl⟩
theorem cl_X5_18 : Cond.classLink RX5 18 "[[I" ∈ tb := tbi_1 (i := 161) rfl rfl
theorem cl_X5_30 : Cond.classLink RX5 30 RX1 ∈ tb := tbi_1 (i := 163) rfl rfl
theorem inl_X5_32 : INL RX5 32 yX1_init "DewBaron" cX1_init 1 := ⟨xni_1 (i := 165) rfl rfl, tbi_1 (i := 166) rfl rfl, tbi_1 (i := 9) rfl rfl, tbi_1 (i := 167) rfl rfl, ⟨by decide +kernel, by decide +kernel, by decide +kernel⟩, by decide, rfl⟩
theorem cl_X5_67 : Cond.classLink RX5 67 RX7 ∈ tb := tbi_1 (i := 191) rfl rfl
theorem inl_X5_69 : INL RX5 69 yX7_init "DewBaron" cX7_init 1 := ⟨xni_1 (i := 193) rfl rfl, tbi_1 (i := 194) rfl rfl, tbi_1 (i := 10) rfl rfl, tbi_1 (i := 195) rfl rfl, ⟨by decide +kernel, by decide +kernel, by decide +kernel⟩, by decide, rfl⟩
theorem oi_X3_3 : Cond.methodLink RX3 3 Lib.objectInit ∈ tb ∧ Cond.instanceMethod Lib.objectInit ∈ tb ∧ Cond.code Lib.objectInit ⟨#[0xb1]⟩ 1 none ∈ tb := ⟨tbi_2 (i := 106) rfl rfl, tbi_1 (i := 27) rfl rfl, tbi_1 (i := 28) rfl rfl⟩
theorem cl_X3_29 : Cond.classLink RX3 29 "[[I" ∈ tb := tbi_2 (i := 107) rfl rfl
theorem oi_X0_3 : Cond.methodLink RX0 3 Lib.objectInit ∈ tb ∧ Cond.instanceMethod Lib.objectInit ∈ tb ∧ Cond.code Lib.objectInit ⟨#[0xb1]⟩ 1 none ∈ tb := ⟨tbi_2 (i := 169) rfl rfl, tbi_1 (i := 27) rfl rfl, tbi_1 (i := 28) rfl rfl⟩
theorem cl_X0_15 : Cond.classLink RX0 15 "[[I" ∈ tb := tbi_2 (i := 170) rfl rfl
theorem oi_X2_3 : Cond.methodLink RX2 3 Lib.objectInit ∈ tb ∧ Cond.instanceMethod Lib.objectInit ∈ tb ∧ Cond.code Lib.objectInit ⟨#[0xb1]⟩ 1 none ∈ tb := ⟨tbi_2 (i := 209) rfl rfl, tbi_1 (i := 27) rfl rfl, tbi_1 (i := 28) rfl rfl⟩
theorem oi_X9_3 : Cond.methodLink RX9 3 Lib.objectInit ∈ tb ∧ Cond.instanceMethod Lib.objectInit ∈ tb ∧ Cond.code Lib.objectInit ⟨#[0xb1]⟩ 1 none ∈ tb := ⟨tbi_2 (i := 147) rfl rfl, tbi_1 (i := 27) rfl rfl, tbi_1 (i := 28) rfl rfl⟩
theorem dX1_init_0 : decode cX1_init 0 = .ok (.aload_n 0, 1) := by decide +kernel
theorem dX1_init_1 : decode cX1_init 1 = .ok (.invokespecial 3, 3) := by decide +kernel
theorem dX1_init_4 : decode cX1_init 4 = .ok (.aload_n 0, 1) := by decide +kernel
theorem dX1_init_5 : decode cX1_init 5 = .ok (.bipush 42, 2) := by decide +kernel
theorem dX1_init_7 : decode cX1_init 7 = .ok (.newarray .int, 2) := by decide +kernel
theorem dX1_init_9 : decode cX1_init 9 = .ok (.putfield 9, 3) := by decide +kernel
theorem dX1_init_12 : decode cX1_init 12 = .ok (.aload_n 0, 1) := by decide +kernel
theorem dX1_init_13 : decode cX1_init 13 = .ok (.bipush 10, 2) := by decide +kernel
theorem dX1_init_15 : decode cX1_init 15 = .ok (.newarray .int, 2) := by decide +kernel
theorem dX1_init_17 : decode cX1_init 17 = .ok (.putfield 15, 3) := by decide +kernel
theorem dX1_init_20 : decode cX1_init 20 = .ok (.aload_n 0, 1) := by decide +kernel
theorem dX1_init_21 : decode cX1_init 21 = .ok (.iconst 5, 1) := by decide +kernel
theorem dX1_init_22 : decode cX1_init 22 = .ok (.newarray .int, 2) := by decide +kernel
theorem dX1_init_24 : decode cX1_init 24 = .ok (.putfield 18, 3) := by decide +kernel
theorem dX1_init_27 : decode cX1_init 27 = .ok (.aload_n 0, 1) := by decide +kernel
theorem dX1_init_28 : decode cX1_init 28 = .ok (.iconst 0, 1) := by decide +kernel
theorem dX1_init_29 : decode cX1_init 29 = .ok (.putfield 21, 3) := by decide +kernel
theorem dX1_init_32 : decode cX1_init 32 = .ok (.return_, 1) := by decide +kernel
def X1_init (l0 n : Nat) (L : MLs) : Option (Nat × MLs) :=
  (newA 1 42 n).bind fun n1 =>
  (putCR 1 0 l0 n1 n1 L).bind fun L2 =>
  (newA 1 10 n1).bind fun n3 =>
  (putCR 1 1 l0 n3 n3 L2).bind fun L4 =>
  (newA 1 5 n3).bind fun n5 =>
  (putCR 1 2 l0 n5 n5 L4).bind fun L6 =>
  (putC 1 3 l0 0 n5 L6).bind fun L7 =>
  some (n5, L7)
set_option maxRecDepth 100000 in
set_option maxHeartbeats 4000000 in
theorem X1_init_ct {l0 n : Nat} {L : MLs} {out : Nat × MLs} (h : X1_init l0 n L = some out) : CT yX1_init cX1_init 1 none 1 3 57 [vR l0] n (mo L) none out.1 (mo out.2) := by
  unfold X1_init at h
  refine CT.of (by decide +kernel) rfl (Nat.le_of_ble_eq_true rfl) (ls := [some (vR l0)]) rfl fun g w C hnm => ?_
  refine j_aload_n C dX1_init_0 rfl ?_
  refine j_obj C dX1_init_1 oi_X1_3 rfl (by decide) (Nat.le_of_ble_eq_true rfl) ?_
  refine j_aload_n C dX1_init_4 rfl ?_
  refine j_bipush C dX1_init_5 rfl ?_
  refine j_newarr C 1 dX1_init_7 (Or.inl ⟨rfl, rfl⟩) acI 42 rfl (Nat.le_of_ble_eq_true rfl) (Nat.le_of_ble_eq_true rfl) h (fun n1 h => ?_)
  refine j_putCR C dX1_init_9 CF1 (by decide) fl_X1_9 rfl (Or.inr ⟨_, rfl⟩) (Or.inr ⟨rfl, hnm, rfl⟩) h (fun L2 h => ?_)
  refine j_aload_n C dX1_init_12 rfl ?_
  refine j_bipush C dX1_init_13 rfl ?_
  refine j_newarr C 1 dX1_init_15 (Or.inl ⟨rfl, rfl⟩) acI 10 rfl (Nat.le_of_ble_eq_true rfl) (Nat.le_of_ble_eq_true rfl) h (fun n3 h => ?_)
  refine j_putCR C dX1_init_17 CF1 (by decide) fl_X1_15 rfl (Or.inr ⟨_, rfl⟩) (Or.inr ⟨rfl, hnm, rfl⟩) h (fun L4 h => ?_)
  refine j_aload_n C dX1_init_20 rfl ?_
  refine j_iconst C dX1_init_21 rfl ?_
  refine j_newarr C 1 dX1_init_22 (Or.inl ⟨rfl, rfl⟩) acI 5 rfl (Nat.le_of_ble_eq_true rfl) (Nat.le_of_ble_eq_true rfl) h (fun n5 h => ?_)
  refine j_putCR C dX1_init_24 CF1 (by decide) fl_X1_18 rfl (Or.inr ⟨_, rfl⟩) (Or.inr ⟨rfl, hnm, rfl⟩) h (fun L6 h => ?_)
  refine j_aload_n C dX1_init_27 rfl ?_
  refine j_iconst C dX1_init_28 rfl ?_
  refine j_putCI C dX1_init_29 CF1 (by decide) fl_X1_21 rfl ⟨rfl, rfl⟩ (Or.inl rfl) h (fun L7 h => ?_)
  have e := Option.some.inj h
  subst e
  exact j_vret C dX1_init_32 rfl (Nat.le_of_ble_eq_true rfl) (Nat.le_of_ble_eq_true rfl) rfl rfl rfl
theorem dX7_init_0 : decode cX7_init 0 = .ok (.aload_n 0, 1) := by decide +kernel
theorem dX7_init_1 : decode cX7_init 1 = .ok (.invokespecial 3, 3) := by decide +kernel
theorem dX7_init_4 : decode cX7_init 4 = .ok (.aload_n 0, 1) := by decide +kernel
theorem dX7_init_5 : decode cX7_init 5 = .ok (.sipush 1600, 3) := by decide +kernel
theorem dX7_init_8 : decode cX7_init 8 = .ok (.newarray .int, 2) := by decide +kernel
theorem dX7_init_10 : decode cX7_init 10 = .ok (.putfield 9, 3) := by decide +kernel
theorem dX7_init_13 : decode cX7_init 13 = .ok (.aload_n 0, 1) := by decide +kernel
theorem dX7_init_14 : decode cX7_init 14 = .ok (.iconst 0, 1) := by decide +kernel
theorem dX7_init_15 : decode cX7_init 15 = .ok (.putfield 15, 3) := by decide +kernel
theorem dX7_init_18 : decode cX7_init 18 = .ok (.aload_n 0, 1) := by decide +kernel
theorem dX7_init_19 : decode cX7_init 19 = .ok (.iconst 0, 1) := by decide +kernel
theorem dX7_init_20 : decode cX7_init 20 = .ok (.putfield 19, 3) := by decide +kernel
theorem dX7_init_23 : decode cX7_init 23 = .ok (.aload_n 0, 1) := by decide +kernel
theorem dX7_init_24 : decode cX7_init 24 = .ok (.iconst 2, 1) := by decide +kernel
theorem dX7_init_25 : decode cX7_init 25 = .ok (.newarray .int, 2) := by decide +kernel
theorem dX7_init_27 : decode cX7_init 27 = .ok (.putfield 22, 3) := by decide +kernel
theorem dX7_init_30 : decode cX7_init 30 = .ok (.aload_n 0, 1) := by decide +kernel
theorem dX7_init_31 : decode cX7_init 31 = .ok (.iconst 2, 1) := by decide +kernel
theorem dX7_init_32 : decode cX7_init 32 = .ok (.newarray .int, 2) := by decide +kernel
theorem dX7_init_34 : decode cX7_init 34 = .ok (.putfield 25, 3) := by decide +kernel
theorem dX7_init_37 : decode cX7_init 37 = .ok (.aload_n 0, 1) := by decide +kernel
theorem dX7_init_38 : decode cX7_init 38 = .ok (.bipush 64, 2) := by decide +kernel
theorem dX7_init_40 : decode cX7_init 40 = .ok (.newarray .int, 2) := by decide +kernel
theorem dX7_init_42 : decode cX7_init 42 = .ok (.putfield 28, 3) := by decide +kernel
theorem dX7_init_45 : decode cX7_init 45 = .ok (.return_, 1) := by decide +kernel
def X7_init (l0 n : Nat) (L : MLs) : Option (Nat × MLs) :=
  (newA 1 1600 n).bind fun n1 =>
  (putCR 7 0 l0 n1 n1 L).bind fun L2 =>
  (putC 7 1 l0 0 n1 L2).bind fun L3 =>
  (putC 7 2 l0 0 n1 L3).bind fun L4 =>
  (newA 1 2 n1).bind fun n5 =>
  (putCR 7 3 l0 n5 n5 L4).bind fun L6 =>
  (newA 1 2 n5).bind fun n7 =>
  (putCR 7 4 l0 n7 n7 L6).bind fun L8 =>
  (newA 1 64 n7).bind fun n9 =>
  (putCR 7 5 l0 n9 n9 L8).bind fun L10 =>
  some (n9, L10)
set_option maxRecDepth 100000 in
set_option maxHeartbeats 4000000 in
theorem X7_init_ct {l0 n : Nat} {L : MLs} {out : Nat × MLs} (h : X7_init l0 n L = some out) : CT yX7_init cX7_init 1 none 1 4 1668 [vR l0] n (mo L) none out.1 (mo out.2) := by
  unfold X7_init at h
  refine CT.of (by decide +kernel) rfl (Nat.le_of_ble_eq_true rfl) (ls := [some (vR l0)]) rfl fun g w C hnm => ?_
  refine j_aload_n C dX7_init_0 rfl ?_
  refine j_obj C dX7_init_1 oi_X7_3 rfl (by decide) (Nat.le_of_ble_eq_true rfl) ?_
  refine j_aload_n C dX7_init_4 rfl ?_
  refine j_sipush C dX7_init_5 rfl ?_
  refine j_newarr C 1 dX7_init_8 (Or.inl ⟨rfl, rfl⟩) acI 1600 rfl (Nat.le_of_ble_eq_true rfl) (Nat.le_of_ble_eq_true rfl) h (fun n1 h => ?_)
  refine j_putCR C dX7_init_10 CF7 (by decide) fl_X7_9 rfl (Or.inr ⟨_, rfl⟩) (Or.inr ⟨rfl, hnm, rfl⟩) h (fun L2 h => ?_)
  refine j_aload_n C dX7_init_13 rfl ?_
  refine j_iconst C dX7_init_14 rfl ?_
  refine j_putCI C dX7_init_15 CF7 (by decide) fl_X7_15 rfl ⟨rfl, rfl⟩ (Or.inl rfl) h (fun L3 h => ?_)
  refine j_aload_n C dX7_init_18 rfl ?_
  refine j_iconst C dX7_init_19 rfl ?_
  refine j_putCI C dX7_init_20 CF7 (by decide) fl_X7_19 rfl ⟨rfl, rfl⟩ (Or.inl rfl) h (fun L4 h => ?_)
  refine j_aload_n C dX7_init_23 rfl ?_
  refine j_iconst C dX7_init_24 rfl ?_
  refine j_newarr C 1 dX7_init_25 (Or.inl ⟨rfl, rfl⟩) acI 2 rfl (Nat.le_of_ble_eq_true rfl) (Nat.le_of_ble_eq_true rfl) h (fun n5 h => ?_)
  refine j_putCR C dX7_init_27 CF7 (by decide) fl_X7_22 rfl (Or.inr ⟨_, rfl⟩) (Or.inr ⟨rfl, hnm, rfl⟩) h (fun L6 h => ?_)
  refine j_aload_n C dX7_init_30 rfl ?_
  refine j_iconst C dX7_init_31 rfl ?_
  refine j_newarr C 1 dX7_init_32 (Or.inl ⟨rfl, rfl⟩) acI 2 rfl (Nat.le_of_ble_eq_true rfl) (Nat.le_of_ble_eq_true rfl) h (fun n7 h => ?_)
  refine j_putCR C dX7_init_34 CF7 (by decide) fl_X7_25 rfl (Or.inr ⟨_, rfl⟩) (Or.inr ⟨rfl, hnm, rfl⟩) h (fun L8 h => ?_)
  refine j_aload_n C dX7_init_37 rfl ?_
  refine j_bipush C dX7_init_38 rfl ?_
  refine j_newarr C 1 dX7_init_40 (Or.inl ⟨rfl, rfl⟩) acI 64 rfl (Nat.le_of_ble_eq_true rfl) (Nat.le_of_ble_eq_true rfl) h (fun n9 h => ?_)
  refine j_putCR C dX7_init_42 CF7 (by decide) fl_X7_28 rfl (Or.inr ⟨_, rfl⟩) (Or.inr ⟨rfl, hnm, rfl⟩) h (fun L10 h => ?_)
  have e := Option.some.inj h
  subst e
  exact j_vret C dX7_init_45 rfl (Nat.le_of_ble_eq_true rfl) (Nat.le_of_ble_eq_true rfl) rfl rfl rfl
theorem dX5_init_0 : decode cX5_init 0 = .ok (.aload_n 0, 1) := by decide +kernel
theorem dX5_init_1 : decode cX5_init 1 = .ok (.invokespecial 3, 3) := by decide +kernel
theorem dX5_init_4 : decode cX5_init 4 = .ok (.aload_n 0, 1) := by decide +kernel
theorem dX5_init_5 : decode cX5_init 5 = .ok (.iconst 0, 1) := by decide +kernel
theorem dX5_init_6 : decode cX5_init 6 = .ok (.putfield 9, 3) := by decide +kernel
theorem dX5_init_9 : decode cX5_init 9 = .ok (.aload_n 0, 1) := by decide +kernel
theorem dX5_init_10 : decode cX5_init 10 = .ok (.iconst 0, 1) := by decide +kernel
theorem dX5_init_11 : decode cX5_init 11 = .ok (.putfield 15, 3) := by decide +kernel
theorem dX5_init_14 : decode cX5_init 14 = .ok (.aload_n 0, 1) := by decide +kernel
theorem dX5_init_15 : decode cX5_init 15 = .ok (.bipush 8, 2) := by decide +kernel
theorem dX5_init_17 : decode cX5_init 17 = .ok (.bipush 42, 2) := by decide +kernel
theorem dX5_init_19 : decode cX5_init 19 = .ok (.multianewarray 18 2, 4) := by decide +kernel
theorem dX5_init_23 : decode cX5_init 23 = .ok (.putfield 20, 3) := by decide +kernel
theorem dX5_init_26 : decode cX5_init 26 = .ok (.aload_n 0, 1) := by decide +kernel
theorem dX5_init_27 : decode cX5_init 27 = .ok (.bipush 42, 2) := by decide +kernel
theorem dX5_init_29 : decode cX5_init 29 = .ok (.newarray .int, 2) := by decide +kernel
theorem dX5_init_31 : decode cX5_init 31 = .ok (.putfield 23, 3) := by decide +kernel
theorem dX5_init_34 : decode cX5_init 34 = .ok (.aload_n 0, 1) := by decide +kernel
theorem dX5_init_35 : decode cX5_init 35 = .ok (.bipush 42, 2) := by decide +kernel
theorem dX5_init_37 : decode cX5_init 37 = .ok (.newarray .int, 2) := by decide +kernel
theorem dX5_init_39 : decode cX5_init 39 = .ok (.putfield 27, 3) := by decide +kernel
theorem dX5_init_42 : decode cX5_init 42 = .ok (.aload_n 0, 1) := by decide +kernel
theorem dX5_init_43 : decode cX5_init 43 = .ok (.new 30, 3) := by decide +kernel
theorem dX5_init_46 : decode cX5_init 46 = .ok (.dup, 1) := by decide +kernel
theorem dX5_init_47 : decode cX5_init 47 = .ok (.invokespecial 32, 3) := by decide +kernel
theorem dX5_init_50 : decode cX5_init 50 = .ok (.putfield 33, 3) := by decide +kernel
theorem dX5_init_53 : decode cX5_init 53 = .ok (.aload_n 0, 1) := by decide +kernel
theorem dX5_init_54 : decode cX5_init 54 = .ok (.iconst 0, 1) := by decide +kernel
theorem dX5_init_55 : decode cX5_init 55 = .ok (.putfield 37, 3) := by decide +kernel
theorem dX5_init_58 : decode cX5_init 58 = .ok (.aload_n 0, 1) := by decide +kernel
theorem dX5_init_59 : decode cX5_init 59 = .ok (.iconst 5, 1) := by decide +kernel
theorem dX5_init_60 : decode cX5_init 60 = .ok (.newarray .int, 2) := by decide +kernel
theorem dX5_init_62 : decode cX5_init 62 = .ok (.putfield 40, 3) := by decide +kernel
theorem dX5_init_65 : decode cX5_init 65 = .ok (.aload_n 0, 1) := by decide +kernel
theorem dX5_init_66 : decode cX5_init 66 = .ok (.iconst 5, 1) := by decide +kernel
theorem dX5_init_67 : decode cX5_init 67 = .ok (.newarray .int, 2) := by decide +kernel
theorem dX5_init_69 : decode cX5_init 69 = .ok (.putfield 43, 3) := by decide +kernel
theorem dX5_init_72 : decode cX5_init 72 = .ok (.aload_n 0, 1) := by decide +kernel
theorem dX5_init_73 : decode cX5_init 73 = .ok (.iconst 0, 1) := by decide +kernel
theorem dX5_init_74 : decode cX5_init 74 = .ok (.putfield 46, 3) := by decide +kernel
theorem dX5_init_77 : decode cX5_init 77 = .ok (.aload_n 0, 1) := by decide +kernel
theorem dX5_init_78 : decode cX5_init 78 = .ok (.bipush 10, 2) := by decide +kernel
theorem dX5_init_80 : decode cX5_init 80 = .ok (.newarray .int, 2) := by decide +kernel
theorem dX5_init_82 : decode cX5_init 82 = .ok (.putfield 49, 3) := by decide +kernel
theorem dX5_init_85 : decode cX5_init 85 = .ok (.aload_n 0, 1) := by decide +kernel
theorem dX5_init_86 : decode cX5_init 86 = .ok (.bipush 10, 2) := by decide +kernel
theorem dX5_init_88 : decode cX5_init 88 = .ok (.newarray .int, 2) := by decide +kernel
theorem dX5_init_90 : decode cX5_init 90 = .ok (.putfield 52, 3) := by decide +kernel
theorem dX5_init_93 : decode cX5_init 93 = .ok (.aload_n 0, 1) := by decide +kernel
theorem dX5_init_94 : decode cX5_init 94 = .ok (.iconst 0, 1) := by decide +kernel
theorem dX5_init_95 : decode cX5_init 95 = .ok (.putfield 55, 3) := by decide +kernel
theorem dX5_init_98 : decode cX5_init 98 = .ok (.aload_n 0, 1) := by decide +kernel
theorem dX5_init_99 : decode cX5_init 99 = .ok (.bipush 10, 2) := by decide +kernel
theorem dX5_init_101 : decode cX5_init 101 = .ok (.newarray .int, 2) := by decide +kernel
theorem dX5_init_103 : decode cX5_init 103 = .ok (.putfield 58, 3) := by decide +kernel
theorem dX5_init_106 : decode cX5_init 106 = .ok (.aload_n 0, 1) := by decide +kernel
theorem dX5_init_107 : decode cX5_init 107 = .ok (.bipush 10, 2) := by decide +kernel
theorem dX5_init_109 : decode cX5_init 109 = .ok (.newarray .int, 2) := by decide +kernel
theorem dX5_init_111 : decode cX5_init 111 = .ok (.putfield 61, 3) := by decide +kernel
theorem dX5_init_114 : decode cX5_init 114 = .ok (.aload_n 0, 1) := by decide +kernel
theorem dX5_init_115 : decode cX5_init 115 = .ok (.bipush 13, 2) := by decide +kernel
theorem dX5_init_117 : decode cX5_init 117 = .ok (.newarray .int, 2) := by decide +kernel
theorem dX5_init_119 : decode cX5_init 119 = .ok (.putfield 64, 3) := by decide +kernel
theorem dX5_init_122 : decode cX5_init 122 = .ok (.aload_n 0, 1) := by decide +kernel
theorem dX5_init_123 : decode cX5_init 123 = .ok (.new 67, 3) := by decide +kernel
theorem dX5_init_126 : decode cX5_init 126 = .ok (.dup, 1) := by decide +kernel
theorem dX5_init_127 : decode cX5_init 127 = .ok (.invokespecial 69, 3) := by decide +kernel
theorem dX5_init_130 : decode cX5_init 130 = .ok (.putfield 70, 3) := by decide +kernel
theorem dX5_init_133 : decode cX5_init 133 = .ok (.aload_n 0, 1) := by decide +kernel
theorem dX5_init_134 : decode cX5_init 134 = .ok (.iconst 0, 1) := by decide +kernel
theorem dX5_init_135 : decode cX5_init 135 = .ok (.putfield 74, 3) := by decide +kernel
theorem dX5_init_138 : decode cX5_init 138 = .ok (.aload_n 0, 1) := by decide +kernel
theorem dX5_init_139 : decode cX5_init 139 = .ok (.iconst 0, 1) := by decide +kernel
theorem dX5_init_140 : decode cX5_init 140 = .ok (.putfield 77, 3) := by decide +kernel
theorem dX5_init_143 : decode cX5_init 143 = .ok (.aload_n 0, 1) := by decide +kernel
theorem dX5_init_144 : decode cX5_init 144 = .ok (.iconst 5, 1) := by decide +kernel
theorem dX5_init_145 : decode cX5_init 145 = .ok (.putfield 80, 3) := by decide +kernel
theorem dX5_init_148 : decode cX5_init 148 = .ok (.return_, 1) := by decide +kernel
def X5_init (l0 n : Nat) (L : MLs) : Option (Nat × MLs) :=
  (putC 5 0 l0 0 n L).bind fun L1 =>
  (putC 5 1 l0 0 n L1).bind fun L2 =>
  (newM 8 42 n L2).bind fun p3 =>
  (putCR 5 2 l0 p3.1 p3.2.1 p3.2.2).bind fun L4 =>
  (newA 1 42 p3.2.1).bind fun n5 =>
  (putCR 5 3 l0 n5 n5 L4).bind fun L6 =>
  (newA 1 42 n5).bind fun n7 =>
  (putCR 5 4 l0 n7 n7 L6).bind fun L8 =>
  (newO 1 4 n7).bind fun n9 =>
  (X1_init n9 n9 L8).bind fun p10 =>
  (putCR 5 5 l0 n9 p10.1 p10.2).bind fun L11 =>
  (putC 5 6 l0 0 p10.1 L11).bind fun L12 =>
  (newA 1 5 p10.1).bind fun n13 =>
  (putCR 5 7 l0 n13 n13 L12).bind fun L14 =>
  (newA 1 5 n13).bind fun n15 =>
  (putCR 5 8 l0 n15 n15 L14).bind fun L16 =>
  (putC 5 9 l0 0 n15 L16).bind fun L17 =>
  (newA 1 10 n15).bind fun n18 =>
  (putCR 5 10 l0 n18 n18 L17).bind fun L19 =>
  (newA 1 10 n18).bind fun n20 =>
  (putCR 5 11 l0 n20 n20 L19).bind fun L21 =>
  (putC 5 12 l0 0 n20 L21).bind fun L22 =>
  (newA 1 10 n20).bind fun n23 =>
  (putCR 5 13 l0 n23 n23 L22).bind fun L24 =>
  (newA 1 10 n23).bind fun n25 =>
  (putCR 5 14 l0 n25 n25 L24).bind fun L26 =>
  (newA 1 13 n25).bind fun n27 =>
  (putCR 5 15 l0 n27 n27 L26).bind fun L28 =>
  (newO 7 6 n27).bind fun n29 =>
  (X7_init n29 n29 L28).bind fun p30 =>
  (putCR 5 16 l0 n29 p30.1 p30.2).bind fun L31 =>
  (putC 5 17 l0 0 p30.1 L31).bind fun L32 =>
  (putC 5 18 l0 0 p30.1 L32).bind fun L33 =>
  (putC 5 19 l0 5 p30.1 L33).bind fun L34 =>
  some (p30.1, L34)
set_option maxRecDepth 100000 in
set_option maxHeartbeats 4000000 in
theorem X5_init_ct {l0 n : Nat} {L : MLs} {out : Nat × MLs} (h : X5_init l0 n L = some out) : CT yX5_init cX5_init 1 none 2 27 2226 [vR l0] n (mo L) none out.1 (mo out.2) := by
  unfold X5_init at h
  refine CT.of (by decide +kernel) rfl (Nat.le_of_ble_eq_true rfl) (ls := [some (vR l0)]) rfl fun g w C hnm => ?_
  refine j_aload_n C dX5_init_0 rfl ?_
  refine j_obj C dX5_init_1 oi_X5_3 rfl (by decide) (Nat.le_of_ble_eq_true rfl) ?_
  refine j_aload_n C dX5_init_4 rfl ?_
  refine j_iconst C dX5_init_5 rfl ?_
  refine j_putCI C dX5_init_6 CF5 (by decide) fl_X5_9 rfl ⟨rfl, rfl⟩ (Or.inl rfl) h (fun L1 h => ?_)
  refine j_aload_n C dX5_init_9 rfl ?_
  refine j_iconst C dX5_init_10 rfl ?_
  refine j_putCI C dX5_init_11 CF5 (by decide) fl_X5_15 rfl ⟨rfl, rfl⟩ (Or.inl rfl) h (fun L2 h => ?_)
  refine j_aload_n C dX5_init_14 rfl ?_
  refine j_bipush C dX5_init_15 rfl ?_
  refine j_bipush C dX5_init_17 rfl ?_
  refine j_mna C 8 42 dX5_init_19 cl_X5_18 acI rfl rfl (Nat.le_of_ble_eq_true rfl) (Nat.le_of_ble_eq_true rfl) h (fun p3 h => ?_)
  refine j_putCR C dX5_init_23 CF5 (by decide) fl_X5_20 rfl (Or.inr ⟨_, rfl⟩) (Or.inr ⟨rfl, hnm, rfl⟩) h (fun L4 h => ?_)
  refine j_aload_n C dX5_init_26 rfl ?_
  refine j_bipush C dX5_init_27 rfl ?_
  refine j_newarr C 1 dX5_init_29 (Or.inl ⟨rfl, rfl⟩) acI 42 rfl (Nat.le_of_ble_eq_true rfl) (Nat.le_of_ble_eq_true rfl) h (fun n5 h => ?_)
  refine j_putCR C dX5_init_31 CF5 (by decide) fl_X5_23 rfl (Or.inr ⟨_, rfl⟩) (Or.inr ⟨rfl, hnm, rfl⟩) h (fun L6 h => ?_)
  refine j_aload_n C dX5_init_34 rfl ?_
  refine j_bipush C dX5_init_35 rfl ?_
  refine j_newarr C 1 dX5_init_37 (Or.inl ⟨rfl, rfl⟩) acI 42 rfl (Nat.le_of_ble_eq_true rfl) (Nat.le_of_ble_eq_true rfl) h (fun n7 h => ?_)
  refine j_putCR C dX5_init_39 CF5 (by decide) fl_X5_27 rfl (Or.inr ⟨_, rfl⟩) (Or.inr ⟨rfl, hnm, rfl⟩) h (fun L8 h => ?_)
  refine j_aload_n C dX5_init_42 rfl ?_
  refine j_new C dX5_init_43 CF1 cl_X5_30 (tbi_1 (i := 164) rfl rfl) (tbi_1 (i := 9) rfl rfl) df1 (Nat.le_of_ble_eq_true rfl) (Nat.le_of_ble_eq_true rfl) h (fun n9 h => ?_)
  refine j_dup C dX5_init_46 rfl ?_
  obtain ⟨p10, ep10, h⟩ := bind_some h
  have qp10 := X1_init_ct ep10
  refine j_callIN C dX5_init_47 inl_X5_32 qp10 (Nat.le_of_ble_eq_true rfl) (Nat.le_of_ble_eq_true rfl) (Nat.le_of_ble_eq_true rfl) (Nat.le_of_ble_eq_true rfl) (Nat.le_of_ble_eq_true rfl) ?_
  refine j_putCR C dX5_init_50 CF5 (by decide) fl_X5_33 rfl (Or.inl ⟨_, rfl⟩) (Or.inr ⟨rfl, hnm, rfl⟩) h (fun L11 h => ?_)
  refine j_aload_n C dX5_init_53 rfl ?_
  refine j_iconst C dX5_init_54 rfl ?_
  refine j_putCI C dX5_init_55 CF5 (by decide) fl_X5_37 rfl ⟨rfl, rfl⟩ (Or.inl rfl) h (fun L12 h => ?_)
  refine j_aload_n C dX5_init_58 rfl ?_
  refine j_iconst C dX5_init_59 rfl ?_
  refine j_newarr C 1 dX5_init_60 (Or.inl ⟨rfl, rfl⟩) acI 5 rfl (Nat.le_of_ble_eq_true rfl) (Nat.le_of_ble_eq_true rfl) h (fun n13 h => ?_)
  refine j_putCR C dX5_init_62 CF5 (by decide) fl_X5_40 rfl (Or.inr ⟨_, rfl⟩) (Or.inr ⟨rfl, hnm, rfl⟩) h (fun L14 h => ?_)
  refine j_aload_n C dX5_init_65 rfl ?_
  refine j_iconst C dX5_init_66 rfl ?_
  refine j_newarr C 1 dX5_init_67 (Or.inl ⟨rfl, rfl⟩) acI 5 rfl (Nat.le_of_ble_eq_true rfl) (Nat.le_of_ble_eq_true rfl) h (fun n15 h => ?_)
  refine j_putCR C dX5_init_69 CF5 (by decide) fl_X5_43 rfl (Or.inr ⟨_, rfl⟩) (Or.inr ⟨rfl, hnm, rfl⟩) h (fun L16 h => ?_)
  refine j_aload_n C dX5_init_72 rfl ?_
  refine j_iconst C dX5_init_73 rfl ?_
  refine j_putCI C dX5_init_74 CF5 (by decide) fl_X5_46 rfl ⟨rfl, rfl⟩ (Or.inl rfl) h (fun L17 h => ?_)
  refine j_aload_n C dX5_init_77 rfl ?_
  refine j_bipush C dX5_init_78 rfl ?_
  refine j_newarr C 1 dX5_init_80 (Or.inl ⟨rfl, rfl⟩) acI 10 rfl (Nat.le_of_ble_eq_true rfl) (Nat.le_of_ble_eq_true rfl) h (fun n18 h => ?_)
  refine j_putCR C dX5_init_82 CF5 (by decide) fl_X5_49 rfl (Or.inr ⟨_, rfl⟩) (Or.inr ⟨rfl, hnm, rfl⟩) h (fun L19 h => ?_)
  refine j_aload_n C dX5_init_85 rfl ?_
  refine j_bipush C dX5_init_86 rfl ?_
  refine j_newarr C 1 dX5_init_88 (Or.inl ⟨rfl, rfl⟩) acI 10 rfl (Nat.le_of_ble_eq_true rfl) (Nat.le_of_ble_eq_true rfl) h (fun n20 h => ?_)
  refine j_putCR C dX5_init_90 CF5 (by decide) fl_X5_52 rfl (Or.inr ⟨_, rfl⟩) (Or.inr ⟨rfl, hnm, rfl⟩) h (fun L21 h => ?_)
  refine j_aload_n C dX5_init_93 rfl ?_
  refine j_iconst C dX5_init_94 rfl ?_
  refine j_putCI C dX5_init_95 CF5 (by decide) fl_X5_55 rfl ⟨rfl, rfl⟩ (Or.inl rfl) h (fun L22 h => ?_)
  refine j_aload_n C dX5_init_98 rfl ?_
  refine j_bipush C dX5_init_99 rfl ?_
  refine j_newarr C 1 dX5_init_101 (Or.inl ⟨rfl, rfl⟩) acI 10 rfl (Nat.le_of_ble_eq_true rfl) (Nat.le_of_ble_eq_true rfl) h (fun n23 h => ?_)
  refine j_putCR C dX5_init_103 CF5 (by decide) fl_X5_58 rfl (Or.inr ⟨_, rfl⟩) (Or.inr ⟨rfl, hnm, rfl⟩) h (fun L24 h => ?_)
  refine j_aload_n C dX5_init_106 rfl ?_
  refine j_bipush C dX5_init_107 rfl ?_
  refine j_newarr C 1 dX5_init_109 (Or.inl ⟨rfl, rfl⟩) acI 10 rfl (Nat.le_of_ble_eq_true rfl) (Nat.le_of_ble_eq_true rfl) h (fun n25 h => ?_)
  refine j_putCR C dX5_init_111 CF5 (by decide) fl_X5_61 rfl (Or.inr ⟨_, rfl⟩) (Or.inr ⟨rfl, hnm, rfl⟩) h (fun L26 h => ?_)
  refine j_aload_n C dX5_init_114 rfl ?_
  refine j_bipush C dX5_init_115 rfl ?_
  refine j_newarr C 1 dX5_init_117 (Or.inl ⟨rfl, rfl⟩) acI 13 rfl (Nat.le_of_ble_eq_true rfl) (Nat.le_of_ble_eq_true rfl) h (fun n27 h => ?_)
  refine j_putCR C dX5_init_119 CF5 (by decide) fl_X5_64 rfl (Or.inr ⟨_, rfl⟩) (Or.inr ⟨rfl, hnm, rfl⟩) h (fun L28 h => ?_)
  refine j_aload_n C dX5_init_122 rfl ?_
  refine j_new C dX5_init_123 CF7 cl_X5_67 (tbi_1 (i := 192) rfl rfl) (tbi_1 (i := 10) rfl rfl) df7 (Nat.le_of_ble_eq_true rfl) (Nat.le_of_ble_eq_true rfl) h (fun n29 h => ?_)
  refine j_dup C dX5_init_126 rfl ?_
  obtain ⟨p30, ep30, h⟩ := bind_some h
  have qp30 := X7_init_ct ep30
  refine j_callIN C dX5_init_127 inl_X5_69 qp30 (Nat.le_of_ble_eq_true rfl) (Nat.le_of_ble_eq_true rfl) (Nat.le_of_ble_eq_true rfl) (Nat.le_of_ble_eq_true rfl) (Nat.le_of_ble_eq_true rfl) ?_
  refine j_putCR C dX5_init_130 CF5 (by decide) fl_X5_70 rfl (Or.inl ⟨_, rfl⟩) (Or.inr ⟨rfl, hnm, rfl⟩) h (fun L31 h => ?_)
  refine j_aload_n C dX5_init_133 rfl ?_
  refine j_iconst C dX5_init_134 rfl ?_
  refine j_putCI C dX5_init_135 CF5 (by decide) fl_X5_74 rfl ⟨rfl, rfl⟩ (Or.inl rfl) h (fun L32 h => ?_)
  refine j_aload_n C dX5_init_138 rfl ?_
  refine j_iconst C dX5_init_139 rfl ?_
  refine j_putCI C dX5_init_140 CF5 (by decide) fl_X5_77 rfl ⟨rfl, rfl⟩ (Or.inl rfl) h (fun L33 h => ?_)
  refine j_aload_n C dX5_init_143 rfl ?_
  refine j_iconst C dX5_init_144 rfl ?_
  refine j_putCI C dX5_init_145 CF5 (by decide) fl_X5_80 rfl ⟨rfl, rfl⟩ (Or.inl rfl) h (fun L34 h => ?_)
  have e := Option.some.inj h
  subst e
  exact j_vret C dX5_init_148 rfl (Nat.le_of_ble_eq_true rfl) (Nat.le_of_ble_eq_true rfl) rfl rfl rfl
theorem dX3_init_0 : decode cX3_init 0 = .ok (.aload_n 0, 1) := by decide +kernel
theorem dX3_init_1 : decode cX3_init 1 = .ok (.invokespecial 3, 3) := by decide +kernel
theorem dX3_init_4 : decode cX3_init 4 = .ok (.aload_n 0, 1) := by decide +kernel
theorem dX3_init_5 : decode cX3_init 5 = .ok (.bipush 13, 2) := by decide +kernel
theorem dX3_init_7 : decode cX3_init 7 = .ok (.newarray .int, 2) := by decide +kernel
theorem dX3_init_9 : decode cX3_init 9 = .ok (.putfield 9, 3) := by decide +kernel
theorem dX3_init_12 : decode cX3_init 12 = .ok (.aload_n 0, 1) := by decide +kernel
theorem dX3_init_13 : decode cX3_init 13 = .ok (.bipush 13, 2) := by decide +kernel
theorem dX3_init_15 : decode cX3_init 15 = .ok (.newarray .int, 2) := by decide +kernel
theorem dX3_init_17 : decode cX3_init 17 = .ok (.putfield 15, 3) := by decide +kernel
theorem dX3_init_20 : decode cX3_init 20 = .ok (.aload_n 0, 1) := by decide +kernel
theorem dX3_init_21 : decode cX3_init 21 = .ok (.bipush 42, 2) := by decide +kernel
theorem dX3_init_23 : decode cX3_init 23 = .ok (.newarray .int, 2) := by decide +kernel
theorem dX3_init_25 : decode cX3_init 25 = .ok (.putfield 18, 3) := by decide +kernel
theorem dX3_init_28 : decode cX3_init 28 = .ok (.aload_n 0, 1) := by decide +kernel
theorem dX3_init_29 : decode cX3_init 29 = .ok (.bipush 42, 2) := by decide +kernel
theorem dX3_init_31 : decode cX3_init 31 = .ok (.newarray .int, 2) := by decide +kernel
theorem dX3_init_33 : decode cX3_init 33 = .ok (.putfield 21, 3) := by decide +kernel
theorem dX3_init_36 : decode cX3_init 36 = .ok (.aload_n 0, 1) := by decide +kernel
theorem dX3_init_37 : decode cX3_init 37 = .ok (.bipush 10, 2) := by decide +kernel
theorem dX3_init_39 : decode cX3_init 39 = .ok (.newarray .int, 2) := by decide +kernel
theorem dX3_init_41 : decode cX3_init 41 = .ok (.putfield 26, 3) := by decide +kernel
theorem dX3_init_44 : decode cX3_init 44 = .ok (.aload_n 0, 1) := by decide +kernel
theorem dX3_init_45 : decode cX3_init 45 = .ok (.bipush 11, 2) := by decide +kernel
theorem dX3_init_47 : decode cX3_init 47 = .ok (.bipush 13, 2) := by decide +kernel
theorem dX3_init_49 : decode cX3_init 49 = .ok (.multianewarray 29 2, 4) := by decide +kernel
theorem dX3_init_53 : decode cX3_init 53 = .ok (.putfield 31, 3) := by decide +kernel
theorem dX3_init_56 : decode cX3_init 56 = .ok (.aload_n 0, 1) := by decide +kernel
theorem dX3_init_57 : decode cX3_init 57 = .ok (.bipush 11, 2) := by decide +kernel
theorem dX3_init_59 : decode cX3_init 59 = .ok (.bipush 13, 2) := by decide +kernel
theorem dX3_init_61 : decode cX3_init 61 = .ok (.multianewarray 29 2, 4) := by decide +kernel
theorem dX3_init_65 : decode cX3_init 65 = .ok (.putfield 34, 3) := by decide +kernel
theorem dX3_init_68 : decode cX3_init 68 = .ok (.aload_n 0, 1) := by decide +kernel
theorem dX3_init_69 : decode cX3_init 69 = .ok (.bipush 11, 2) := by decide +kernel
theorem dX3_init_71 : decode cX3_init 71 = .ok (.bipush 13, 2) := by decide +kernel
theorem dX3_init_73 : decode cX3_init 73 = .ok (.multianewarray 29 2, 4) := by decide +kernel
theorem dX3_init_77 : decode cX3_init 77 = .ok (.putfield 37, 3) := by decide +kernel
theorem dX3_init_80 : decode cX3_init 80 = .ok (.aload_n 0, 1) := by decide +kernel
theorem dX3_init_81 : decode cX3_init 81 = .ok (.iconst 5, 1) := by decide +kernel
theorem dX3_init_82 : decode cX3_init 82 = .ok (.newarray .int, 2) := by decide +kernel
theorem dX3_init_84 : decode cX3_init 84 = .ok (.putfield 40, 3) := by decide +kernel
theorem dX3_init_87 : decode cX3_init 87 = .ok (.return_, 1) := by decide +kernel
def X3_init (l0 n : Nat) (L : MLs) : Option (Nat × MLs) :=
  (newA 1 13 n).bind fun n1 =>
  (putCR 3 0 l0 n1 n1 L).bind fun L2 =>
  (newA 1 13 n1).bind fun n3 =>
  (putCR 3 1 l0 n3 n3 L2).bind fun L4 =>
  (newA 1 42 n3).bind fun n5 =>
  (putCR 3 2 l0 n5 n5 L4).bind fun L6 =>
  (newA 1 42 n5).bind fun n7 =>
  (putCR 3 3 l0 n7 n7 L6).bind fun L8 =>
  (newA 1 10 n7).bind fun n9 =>
  (putCR 3 4 l0 n9 n9 L8).bind fun L10 =>
  (newM 11 13 n9 L10).bind fun p11 =>
  (putCR 3 5 l0 p11.1 p11.2.1 p11.2.2).bind fun L12 =>
  (newM 11 13 p11.2.1 L12).bind fun p13 =>
  (putCR 3 6 l0 p13.1 p13.2.1 p13.2.2).bind fun L14 =>
  (newM 11 13 p13.2.1 L14).bind fun p15 =>
  (putCR 3 7 l0 p15.1 p15.2.1 p15.2.2).bind fun L16 =>
  (newA 1 5 p15.2.1).bind fun n17 =>
  (putCR 3 8 l0 n17 n17 L16).bind fun L18 =>
  some (n17, L18)
set_option maxRecDepth 100000 in
set_option maxHeartbeats 4000000 in
theorem X3_init_ct {l0 n : Nat} {L : MLs} {out : Nat × MLs} (h : X3_init l0 n L = some out) : CT yX3_init cX3_init 1 none 1 42 587 [vR l0] n (mo L) none out.1 (mo out.2) := by
  unfold X3_init at h
  refine CT.of (by decide +kernel) rfl (Nat.le_of_ble_eq_true rfl) (ls := [some (vR l0)]) rfl fun g w C hnm => ?_
  refine j_aload_n C dX3_init_0 rfl ?_
  refine j_obj C dX3_init_1 oi_X3_3 rfl (by decide) (Nat.le_of_ble_eq_true rfl) ?_
  refine j_aload_n C dX3_init_4 rfl ?_
  refine j_bipush C dX3_init_5 rfl ?_
  refine j_newarr C 1 dX3_init_7 (Or.inl ⟨rfl, rfl⟩) acI 13 rfl (Nat.le_of_ble_eq_true rfl) (Nat.le_of_ble_eq_true rfl) h (fun n1 h => ?_)
  refine j_putCR C dX3_init_9 CF3 (by decide) fl_X3_9 rfl (Or.inr ⟨_, rfl⟩) (Or.inr ⟨rfl, hnm, rfl⟩) h (fun L2 h => ?_)
  refine j_aload_n C dX3_init_12 rfl ?_
  refine j_bipush C dX3_init_13 rfl ?_
  refine j_newarr C 1 dX3_init_15 (Or.inl ⟨rfl, rfl⟩) acI 13 rfl (Nat.le_of_ble_eq_true rfl) (Nat.le_of_ble_eq_true rfl) h (fun n3 h => ?_)
  refine j_putCR C dX3_init_17 CF3 (by decide) fl_X3_15 rfl (Or.inr ⟨_, rfl⟩) (Or.inr ⟨rfl, hnm, rfl⟩) h (fun L4 h => ?_)
  refine j_aload_n C dX3_init_20 rfl ?_
  refine j_bipush C dX3_init_21 rfl ?_
  refine j_newarr C 1 dX3_init_23 (Or.inl ⟨rfl, rfl⟩) acI 42 rfl (Nat.le_of_ble_eq_true rfl) (Nat.le_of_ble_eq_true rfl) h (fun n5 h => ?_)
  refine j_putCR C dX3_init_25 CF3 (by decide) fl_X3_18 rfl (Or.inr ⟨_, rfl⟩) (Or.inr ⟨rfl, hnm, rfl⟩) h (fun L6 h => ?_)
  refine j_aload_n C dX3_init_28 rfl ?_
  refine j_bipush C dX3_init_29 rfl ?_
  refine j_newarr C 1 dX3_init_31 (Or.inl ⟨rfl, rfl⟩) acI 42 rfl (Nat.le_of_ble_eq_true rfl) (Nat.le_of_ble_eq_true rfl) h (fun n7 h => ?_)
  refine j_putCR C dX3_init_33 CF3 (by decide) fl_X3_21 rfl (Or.inr ⟨_, rfl⟩) (Or.inr ⟨rfl, hnm, rfl⟩) h (fun L8 h => ?_)
  refine j_aload_n C dX3_init_36 rfl ?_
  refine j_bipush C dX3_init_37 rfl ?_
  refine j_newarr C 1 dX3_init_39 (Or.inl ⟨rfl, rfl⟩) acI 10 rfl (Nat.le_of_ble_eq_true rfl) (Nat.le_of_ble_eq_true rfl) h (fun n9 h => ?_)
  refine j_putCR C dX3_init_41 CF3 (by decide) fl_X3_26 rfl (Or.inr ⟨_, rfl⟩) (Or.inr ⟨rfl, hnm, rfl⟩) h (fun L10 h => ?_)
  refine j_aload_n C dX3_init_44 rfl ?_
  refine j_bipush C dX3_init_45 rfl ?_
  refine j_bipush C dX3_init_47 rfl ?_
  refine j_mna C 11 13 dX3_init_49 cl_X3_29 acI rfl rfl (Nat.le_of_ble_eq_true rfl) (Nat.le_of_ble_eq_true rfl) h (fun p11 h => ?_)
  refine j_putCR C dX3_init_53 CF3 (by decide) fl_X3_31 rfl (Or.inr ⟨_, rfl⟩) (Or.inr ⟨rfl, hnm, rfl⟩) h (fun L12 h => ?_)
  refine j_aload_n C dX3_init_56 rfl ?_
  refine j_bipush C dX3_init_57 rfl ?_
  refine j_bipush C dX3_init_59 rfl ?_
  refine j_mna C 11 13 dX3_init_61 cl_X3_29 acI rfl rfl (Nat.le_of_ble_eq_true rfl) (Nat.le_of_ble_eq_true rfl) h (fun p13 h => ?_)
  refine j_putCR C dX3_init_65 CF3 (by decide) fl_X3_34 rfl (Or.inr ⟨_, rfl⟩) (Or.inr ⟨rfl, hnm, rfl⟩) h (fun L14 h => ?_)
  refine j_aload_n C dX3_init_68 rfl ?_
  refine j_bipush C dX3_init_69 rfl ?_
  refine j_bipush C dX3_init_71 rfl ?_
  refine j_mna C 11 13 dX3_init_73 cl_X3_29 acI rfl rfl (Nat.le_of_ble_eq_true rfl) (Nat.le_of_ble_eq_true rfl) h (fun p15 h => ?_)
  refine j_putCR C dX3_init_77 CF3 (by decide) fl_X3_37 rfl (Or.inr ⟨_, rfl⟩) (Or.inr ⟨rfl, hnm, rfl⟩) h (fun L16 h => ?_)
  refine j_aload_n C dX3_init_80 rfl ?_
  refine j_iconst C dX3_init_81 rfl ?_
  refine j_newarr C 1 dX3_init_82 (Or.inl ⟨rfl, rfl⟩) acI 5 rfl (Nat.le_of_ble_eq_true rfl) (Nat.le_of_ble_eq_true rfl) h (fun n17 h => ?_)
  refine j_putCR C dX3_init_84 CF3 (by decide) fl_X3_40 rfl (Or.inr ⟨_, rfl⟩) (Or.inr ⟨rfl, hnm, rfl⟩) h (fun L18 h => ?_)
  have e := Option.some.inj h
  subst e
  exact j_vret C dX3_init_87 rfl (Nat.le_of_ble_eq_true rfl) (Nat.le_of_ble_eq_true rfl) rfl rfl rfl
theorem dX0_init_0 : decode cX0_init 0 = .ok (.aload_n 0, 1) := by decide +kernel
theorem dX0_init_1 : decode cX0_init 1 = .ok (.invokespecial 3, 3) := by decide +kernel
theorem dX0_init_4 : decode cX0_init 4 = .ok (.aload_n 0, 1) := by decide +kernel
theorem dX0_init_5 : decode cX0_init 5 = .ok (.iconst 0, 1) := by decide +kernel
theorem dX0_init_6 : decode cX0_init 6 = .ok (.putfield 9, 3) := by decide +kernel
theorem dX0_init_9 : decode cX0_init 9 = .ok (.aload_n 0, 1) := by decide +kernel
theorem dX0_init_10 : decode cX0_init 10 = .ok (.iconst 2, 1) := by decide +kernel
theorem dX0_init_11 : decode cX0_init 11 = .ok (.bipush 42, 2) := by decide +kernel
theorem dX0_init_13 : decode cX0_init 13 = .ok (.multianewarray 15 2, 4) := by decide +kernel
theorem dX0_init_17 : decode cX0_init 17 = .ok (.putfield 17, 3) := by decide +kernel
theorem dX0_init_20 : decode cX0_init 20 = .ok (.aload_n 0, 1) := by decide +kernel
theorem dX0_init_21 : decode cX0_init 21 = .ok (.bipush 42, 2) := by decide +kernel
theorem dX0_init_23 : decode cX0_init 23 = .ok (.newarray .int, 2) := by decide +kernel
theorem dX0_init_25 : decode cX0_init 25 = .ok (.putfield 20, 3) := by decide +kernel
theorem dX0_init_28 : decode cX0_init 28 = .ok (.aload_n 0, 1) := by decide +kernel
theorem dX0_init_29 : decode cX0_init 29 = .ok (.iconst 5, 1) := by decide +kernel
theorem dX0_init_30 : decode cX0_init 30 = .ok (.newarray .int, 2) := by decide +kernel
theorem dX0_init_32 : decode cX0_init 32 = .ok (.putfield 24, 3) := by decide +kernel
theorem dX0_init_35 : decode cX0_init 35 = .ok (.aload_n 0, 1) := by decide +kernel
theorem dX0_init_36 : decode cX0_init 36 = .ok (.iconst 0, 1) := by decide +kernel
theorem dX0_init_37 : decode cX0_init 37 = .ok (.putfield 27, 3) := by decide +kernel
theorem dX0_init_40 : decode cX0_init 40 = .ok (.aload_n 0, 1) := by decide +kernel
theorem dX0_init_41 : decode cX0_init 41 = .ok (.iconst 0, 1) := by decide +kernel
theorem dX0_init_42 : decode cX0_init 42 = .ok (.putfield 30, 3) := by decide +kernel
theorem dX0_init_45 : decode cX0_init 45 = .ok (.aload_n 0, 1) := by decide +kernel
theorem dX0_init_46 : decode cX0_init 46 = .ok (.iconst 2, 1) := by decide +kernel
theorem dX0_init_47 : decode cX0_init 47 = .ok (.newarray .int, 2) := by decide +kernel
theorem dX0_init_49 : decode cX0_init 49 = .ok (.putfield 33, 3) := by decide +kernel
theorem dX0_init_52 : decode cX0_init 52 = .ok (.aload_n 0, 1) := by decide +kernel
theorem dX0_init_53 : decode cX0_init 53 = .ok (.iconst 2, 1) := by decide +kernel
theorem dX0_init_54 : decode cX0_init 54 = .ok (.newarray .int, 2) := by decide +kernel
theorem dX0_init_56 : decode cX0_init 56 = .ok (.putfield 36, 3) := by decide +kernel
theorem dX0_init_59 : decode cX0_init 59 = .ok (.aload_n 0, 1) := by decide +kernel
theorem dX0_init_60 : decode cX0_init 60 = .ok (.iconst 0, 1) := by decide +kernel
theorem dX0_init_61 : decode cX0_init 61 = .ok (.putfield 39, 3) := by decide +kernel
theorem dX0_init_64 : decode cX0_init 64 = .ok (.aload_n 0, 1) := by decide +kernel
theorem dX0_init_65 : decode cX0_init 65 = .ok (.iconst 0, 1) := by decide +kernel
theorem dX0_init_66 : decode cX0_init 66 = .ok (.putfield 42, 3) := by decide +kernel
theorem dX0_init_69 : decode cX0_init 69 = .ok (.return_, 1) := by decide +kernel
def X0_init (l0 n : Nat) (L : MLs) : Option (Nat × MLs) :=
  (putC 0 0 l0 0 n L).bind fun L1 =>
  (newM 2 42 n L1).bind fun p2 =>
  (putCR 0 1 l0 p2.1 p2.2.1 p2.2.2).bind fun L3 =>
  (newA 1 42 p2.2.1).bind fun n4 =>
  (putCR 0 2 l0 n4 n4 L3).bind fun L5 =>
  (newA 1 5 n4).bind fun n6 =>
  (putCR 0 3 l0 n6 n6 L5).bind fun L7 =>
  (putC 0 4 l0 0 n6 L7).bind fun L8 =>
  (putC 0 5 l0 0 n6 L8).bind fun L9 =>
  (newA 1 2 n6).bind fun n10 =>
  (putCR 0 6 l0 n10 n10 L9).bind fun L11 =>
  (newA 1 2 n10).bind fun n12 =>
  (putCR 0 7 l0 n12 n12 L11).bind fun L13 =>
  (putC 0 8 l0 0 n12 L13).bind fun L14 =>
  (putC 0 9 l0 0 n12 L14).bind fun L15 =>
  some (n12, L15)
set_option maxRecDepth 100000 in
set_option maxHeartbeats 4000000 in
theorem X0_init_ct {l0 n : Nat} {L : MLs} {out : Nat × MLs} (h : X0_init l0 n L = some out) : CT yX0_init cX0_init 1 none 1 7 137 [vR l0] n (mo L) none out.1 (mo out.2) := by
  unfold X0_init at h
  refine CT.of (by decide +kernel) rfl (Nat.le_of_ble_eq_true rfl) (ls := [some (vR l0)]) rfl fun g w C hnm => ?_
  refine j_aload_n C dX0_init_0 rfl ?_
  refine j_obj C dX0_init_1 oi_X0_3 rfl (by decide) (Nat.le_of_ble_eq_true rfl) ?_
  refine j_aload_n C dX0_init_4 rfl ?_
  refine j_iconst C dX0_init_5 rfl ?_
  refine j_putCI C dX0_init_6 CF0 (by decide) fl_X0_9 rfl ⟨rfl, rfl⟩ (Or.inl rfl) h (fun L1 h => ?_)
  refine j_aload_n C dX0_init_9 rfl ?_
  refine j_iconst C dX0_init_10 rfl ?_
  refine j_bipush C dX0_init_11 rfl ?_
  refine j_mna C 2 42 dX0_init_13 cl_X0_15 acI rfl rfl (Nat.le_of_ble_eq_true rfl) (Nat.le_of_ble_eq_true rfl) h (fun p2 h => ?_)
  refine j_putCR C dX0_init_17 CF0 (by decide) fl_X0_17 rfl (Or.inr ⟨_, rfl⟩) (Or.inr ⟨rfl, hnm, rfl⟩) h (fun L3 h => ?_)
  refine j_aload_n C dX0_init_20 rfl ?_
  refine j_bipush C dX0_init_21 rfl ?_
  refine j_newarr C 1 dX0_init_23 (Or.inl ⟨rfl, rfl⟩) acI 42 rfl (Nat.le_of_ble_eq_true rfl) (Nat.le_of_ble_eq_true rfl) h (fun n4 h => ?_)
  refine j_putCR C dX0_init_25 CF0 (by decide) fl_X0_20 rfl (Or.inr ⟨_, rfl⟩) (Or.inr ⟨rfl, hnm, rfl⟩) h (fun L5 h => ?_)
  refine j_aload_n C dX0_init_28 rfl ?_
  refine j_iconst C dX0_init_29 rfl ?_
  refine j_newarr C 1 dX0_init_30 (Or.inl ⟨rfl, rfl⟩) acI 5 rfl (Nat.le_of_ble_eq_true rfl) (Nat.le_of_ble_eq_true rfl) h (fun n6 h => ?_)
  refine j_putCR C dX0_init_32 CF0 (by decide) fl_X0_24 rfl (Or.inr ⟨_, rfl⟩) (Or.inr ⟨rfl, hnm, rfl⟩) h (fun L7 h => ?_)
  refine j_aload_n C dX0_init_35 rfl ?_
  refine j_iconst C dX0_init_36 rfl ?_
  refine j_putCI C dX0_init_37 CF0 (by decide) fl_X0_27 rfl ⟨rfl, rfl⟩ (Or.inl rfl) h (fun L8 h => ?_)
  refine j_aload_n C dX0_init_40 rfl ?_
  refine j_iconst C dX0_init_41 rfl ?_
  refine j_putCI C dX0_init_42 CF0 (by decide) fl_X0_30 rfl ⟨rfl, rfl⟩ (Or.inl rfl) h (fun L9 h => ?_)
  refine j_aload_n C dX0_init_45 rfl ?_
  refine j_iconst C dX0_init_46 rfl ?_
  refine j_newarr C 1 dX0_init_47 (Or.inl ⟨rfl, rfl⟩) acI 2 rfl (Nat.le_of_ble_eq_true rfl) (Nat.le_of_ble_eq_true rfl) h (fun n10 h => ?_)
  refine j_putCR C dX0_init_49 CF0 (by decide) fl_X0_33 rfl (Or.inr ⟨_, rfl⟩) (Or.inr ⟨rfl, hnm, rfl⟩) h (fun L11 h => ?_)
  refine j_aload_n C dX0_init_52 rfl ?_
  refine j_iconst C dX0_init_53 rfl ?_
  refine j_newarr C 1 dX0_init_54 (Or.inl ⟨rfl, rfl⟩) acI 2 rfl (Nat.le_of_ble_eq_true rfl) (Nat.le_of_ble_eq_true rfl) h (fun n12 h => ?_)
  refine j_putCR C dX0_init_56 CF0 (by decide) fl_X0_36 rfl (Or.inr ⟨_, rfl⟩) (Or.inr ⟨rfl, hnm, rfl⟩) h (fun L13 h => ?_)
  refine j_aload_n C dX0_init_59 rfl ?_
  refine j_iconst C dX0_init_60 rfl ?_
  refine j_putCI C dX0_init_61 CF0 (by decide) fl_X0_39 rfl ⟨rfl, rfl⟩ (Or.inl rfl) h (fun L14 h => ?_)
  refine j_aload_n C dX0_init_64 rfl ?_
  refine j_iconst C dX0_init_65 rfl ?_
  refine j_putCI C dX0_init_66 CF0 (by decide) fl_X0_42 rfl ⟨rfl, rfl⟩ (Or.inl rfl) h (fun L15 h => ?_)
  have e := Option.some.inj h
  subst e
  exact j_vret C dX0_init_69 rfl (Nat.le_of_ble_eq_true rfl) (Nat.le_of_ble_eq_true rfl) rfl rfl rfl
theorem dX2_init_0 : decode cX2_init 0 = .ok (.aload_n 0, 1) := by decide +kernel
theorem dX2_init_1 : decode cX2_init 1 = .ok (.invokespecial 3, 3) := by decide +kernel
theorem dX2_init_4 : decode cX2_init 4 = .ok (.aload_n 0, 1) := by decide +kernel
theorem dX2_init_5 : decode cX2_init 5 = .ok (.bipush 10, 2) := by decide +kernel
theorem dX2_init_7 : decode cX2_init 7 = .ok (.newarray .int, 2) := by decide +kernel
theorem dX2_init_9 : decode cX2_init 9 = .ok (.putfield 9, 3) := by decide +kernel
theorem dX2_init_12 : decode cX2_init 12 = .ok (.aload_n 0, 1) := by decide +kernel
theorem dX2_init_13 : decode cX2_init 13 = .ok (.iconst 0, 1) := by decide +kernel
theorem dX2_init_14 : decode cX2_init 14 = .ok (.putfield 15, 3) := by decide +kernel
theorem dX2_init_17 : decode cX2_init 17 = .ok (.aload_n 0, 1) := by decide +kernel
theorem dX2_init_18 : decode cX2_init 18 = .ok (.bipush 10, 2) := by decide +kernel
theorem dX2_init_20 : decode cX2_init 20 = .ok (.newarray .int, 2) := by decide +kernel
theorem dX2_init_22 : decode cX2_init 22 = .ok (.putfield 19, 3) := by decide +kernel
theorem dX2_init_25 : decode cX2_init 25 = .ok (.aload_n 0, 1) := by decide +kernel
theorem dX2_init_26 : decode cX2_init 26 = .ok (.bipush 10, 2) := by decide +kernel
theorem dX2_init_28 : decode cX2_init 28 = .ok (.newarray .int, 2) := by decide +kernel
theorem dX2_init_30 : decode cX2_init 30 = .ok (.putfield 22, 3) := by decide +kernel
theorem dX2_init_33 : decode cX2_init 33 = .ok (.aload_n 0, 1) := by decide +kernel
theorem dX2_init_34 : decode cX2_init 34 = .ok (.iconst 0, 1) := by decide +kernel
theorem dX2_init_35 : decode cX2_init 35 = .ok (.putfield 25, 3) := by decide +kernel
theorem dX2_init_38 : decode cX2_init 38 = .ok (.return_, 1) := by decide +kernel
def X2_init (l0 n : Nat) (L : MLs) : Option (Nat × MLs) :=
  (newA 1 10 n).bind fun n1 =>
  (putCR 2 0 l0 n1 n1 L).bind fun L2 =>
  (putC 2 1 l0 0 n1 L2).bind fun L3 =>
  (newA 1 10 n1).bind fun n4 =>
  (putCR 2 2 l0 n4 n4 L3).bind fun L5 =>
  (newA 1 10 n4).bind fun n6 =>
  (putCR 2 3 l0 n6 n6 L5).bind fun L7 =>
  (putC 2 4 l0 0 n6 L7).bind fun L8 =>
  some (n6, L8)
set_option maxRecDepth 100000 in
set_option maxHeartbeats 4000000 in
theorem X2_init_ct {l0 n : Nat} {L : MLs} {out : Nat × MLs} (h : X2_init l0 n L = some out) : CT yX2_init cX2_init 1 none 1 3 30 [vR l0] n (mo L) none out.1 (mo out.2) := by
  unfold X2_init at h
  refine CT.of (by decide +kernel) rfl (Nat.le_of_ble_eq_true rfl) (ls := [some (vR l0)]) rfl fun g w C hnm => ?_
  refine j_aload_n C dX2_init_0 rfl ?_
  refine j_obj C dX2_init_1 oi_X2_3 rfl (by decide) (Nat.le_of_ble_eq_true rfl) ?_
  refine j_aload_n C dX2_init_4 rfl ?_
  refine j_bipush C dX2_init_5 rfl ?_
  refine j_newarr C 1 dX2_init_7 (Or.inl ⟨rfl, rfl⟩) acI 10 rfl (Nat.le_of_ble_eq_true rfl) (Nat.le_of_ble_eq_true rfl) h (fun n1 h => ?_)
  refine j_putCR C dX2_init_9 CF2 (by decide) fl_X2_9 rfl (Or.inr ⟨_, rfl⟩) (Or.inr ⟨rfl, hnm, rfl⟩) h (fun L2 h => ?_)
  refine j_aload_n C dX2_init_12 rfl ?_
  refine j_iconst C dX2_init_13 rfl ?_
  refine j_putCI C dX2_init_14 CF2 (by decide) fl_X2_15 rfl ⟨rfl, rfl⟩ (Or.inl rfl) h (fun L3 h => ?_)
  refine j_aload_n C dX2_init_17 rfl ?_
  refine j_bipush C dX2_init_18 rfl ?_
  refine j_newarr C 1 dX2_init_20 (Or.inl ⟨rfl, rfl⟩) acI 10 rfl (Nat.le_of_ble_eq_true rfl) (Nat.le_of_ble_eq_true rfl) h (fun n4 h => ?_)
  refine j_putCR C dX2_init_22 CF2 (by decide) fl_X2_19 rfl (Or.inr ⟨_, rfl⟩) (Or.inr ⟨rfl, hnm, rfl⟩) h (fun L5 h => ?_)
  refine j_aload_n C dX2_init_25 rfl ?_
  refine j_bipush C dX2_init_26 rfl ?_
  refine j_newarr C 1 dX2_init_28 (Or.inl ⟨rfl, rfl⟩) acI 10 rfl (Nat.le_of_ble_eq_true rfl) (Nat.le_of_ble_eq_true rfl) h (fun n6 h => ?_)
  refine j_putCR C dX2_init_30 CF2 (by decide) fl_X2_22 rfl (Or.inr ⟨_, rfl⟩) (Or.inr ⟨rfl, hnm, rfl⟩) h (fun L7 h => ?_)
  refine j_aload_n C dX2_init_33 rfl ?_
  refine j_iconst C dX2_init_34 rfl ?_
  refine j_putCI C dX2_init_35 CF2 (by decide) fl_X2_25 rfl ⟨rfl, rfl⟩ (Or.inl rfl) h (fun L8 h => ?_)
  have e := Option.some.inj h
  subst e
  exact j_vret C dX2_init_38 rfl (Nat.le_of_ble_eq_true rfl) (Nat.le_of_ble_eq_true rfl) rfl rfl rfl
theorem dX9_init_0 : decode cX9_init 0 = .ok (.aload_n 0, 1) := by decide +kernel
theorem dX9_init_1 : decode cX9_init 1 = .ok (.invokespecial 3, 3) := by decide +kernel
theorem dX9_init_4 : decode cX9_init 4 = .ok (.aload_n 0, 1) := by decide +kernel
theorem dX9_init_5 : decode cX9_init 5 = .ok (.bipush 10, 2) := by decide +kernel
theorem dX9_init_7 : decode cX9_init 7 = .ok (.newarray .int, 2) := by decide +kernel
theorem dX9_init_9 : decode cX9_init 9 = .ok (.putfield 9, 3) := by decide +kernel
theorem dX9_init_12 : decode cX9_init 12 = .ok (.aload_n 0, 1) := by decide +kernel
theorem dX9_init_13 : decode cX9_init 13 = .ok (.bipush 10, 2) := by decide +kernel
theorem dX9_init_15 : decode cX9_init 15 = .ok (.newarray .int, 2) := by decide +kernel
theorem dX9_init_17 : decode cX9_init 17 = .ok (.putfield 15, 3) := by decide +kernel
theorem dX9_init_20 : decode cX9_init 20 = .ok (.aload_n 0, 1) := by decide +kernel
theorem dX9_init_21 : decode cX9_init 21 = .ok (.iconst 0, 1) := by decide +kernel
theorem dX9_init_22 : decode cX9_init 22 = .ok (.putfield 18, 3) := by decide +kernel
theorem dX9_init_25 : decode cX9_init 25 = .ok (.aload_n 0, 1) := by decide +kernel
theorem dX9_init_26 : decode cX9_init 26 = .ok (.iconst 0, 1) := by decide +kernel
theorem dX9_init_27 : decode cX9_init 27 = .ok (.putfield 22, 3) := by decide +kernel
theorem dX9_init_30 : decode cX9_init 30 = .ok (.aload_n 0, 1) := by decide +kernel
theorem dX9_init_31 : decode cX9_init 31 = .ok (.bipush 64, 2) := by decide +kernel
theorem dX9_init_33 : decode cX9_init 33 = .ok (.newarray .int, 2) := by decide +kernel
theorem dX9_init_35 : decode cX9_init 35 = .ok (.putfield 25, 3) := by decide +kernel
theorem dX9_init_38 : decode cX9_init 38 = .ok (.return_, 1) := by decide +kernel
def X9_init (l0 n : Nat) (L : MLs) : Option (Nat × MLs) :=
  (newA 1 10 n).bind fun n1 =>
  (putCR 9 0 l0 n1 n1 L).bind fun L2 =>
  (newA 1 10 n1).bind fun n3 =>
  (putCR 9 1 l0 n3 n3 L2).bind fun L4 =>
  (putC 9 2 l0 0 n3 L4).bind fun L5 =>
  (putC 9 3 l0 0 n3 L5).bind fun L6 =>
  (newA 1 64 n3).bind fun n7 =>
  (putCR 9 4 l0 n7 n7 L6).bind fun L8 =>
  some (n7, L8)
set_option maxRecDepth 100000 in
set_option maxHeartbeats 4000000 in
theorem X9_init_ct {l0 n : Nat} {L : MLs} {out : Nat × MLs} (h : X9_init l0 n L = some out) : CT yX9_init cX9_init 1 none 1 3 84 [vR l0] n (mo L) none out.1 (mo out.2) := by
  unfold X9_init at h
  refine CT.of (by decide +kernel) rfl (Nat.le_of_ble_eq_true rfl) (ls := [some (vR l0)]) rfl fun g w C hnm => ?_
  refine j_aload_n C dX9_init_0 rfl ?_
  refine j_obj C dX9_init_1 oi_X9_3 rfl (by decide) (Nat.le_of_ble_eq_true rfl) ?_
  refine j_aload_n C dX9_init_4 rfl ?_
  refine j_bipush C dX9_init_5 rfl ?_
  refine j_newarr C 1 dX9_init_7 (Or.inl ⟨rfl, rfl⟩) acI 10 rfl (Nat.le_of_ble_eq_true rfl) (Nat.le_of_ble_eq_true rfl) h (fun n1 h => ?_)
  refine j_putCR C dX9_init_9 CF9 (by decide) fl_X9_9 rfl (Or.inr ⟨_, rfl⟩) (Or.inr ⟨rfl, hnm, rfl⟩) h (fun L2 h => ?_)
  refine j_aload_n C dX9_init_12 rfl ?_
  refine j_bipush C dX9_init_13 rfl ?_
  refine j_newarr C 1 dX9_init_15 (Or.inl ⟨rfl, rfl⟩) acI 10 rfl (Nat.le_of_ble_eq_true rfl) (Nat.le_of_ble_eq_true rfl) h (fun n3 h => ?_)
  refine j_putCR C dX9_init_17 CF9 (by decide) fl_X9_15 rfl (Or.inr ⟨_, rfl⟩) (Or.inr ⟨rfl, hnm, rfl⟩) h (fun L4 h => ?_)
  refine j_aload_n C dX9_init_20 rfl ?_
  refine j_iconst C dX9_init_21 rfl ?_
  refine j_putCI C dX9_init_22 CF9 (by decide) fl_X9_18 rfl ⟨rfl, rfl⟩ (Or.inl rfl) h (fun L5 h => ?_)
  refine j_aload_n C dX9_init_25 rfl ?_
  refine j_iconst C dX9_init_26 rfl ?_
  refine j_putCI C dX9_init_27 CF9 (by decide) fl_X9_22 rfl ⟨rfl, rfl⟩ (Or.inl rfl) h (fun L6 h => ?_)
  refine j_aload_n C dX9_init_30 rfl ?_
  refine j_bipush C dX9_init_31 rfl ?_
  refine j_newarr C 1 dX9_init_33 (Or.inl ⟨rfl, rfl⟩) acI 64 rfl (Nat.le_of_ble_eq_true rfl) (Nat.le_of_ble_eq_true rfl) h (fun n7 h => ?_)
  refine j_putCR C dX9_init_35 CF9 (by decide) fl_X9_25 rfl (Or.inr ⟨_, rfl⟩) (Or.inr ⟨rfl, hnm, rfl⟩) h (fun L8 h => ?_)
  have e := Option.some.inj h
  subst e
  exact j_vret C dX9_init_38 rfl (Nat.le_of_ble_eq_true rfl) (Nat.le_of_ble_eq_true rfl) rfl rfl rfl
