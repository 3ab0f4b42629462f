theorem dX4_init_0 : decode cX4_init 0 = .ok (.aload_n 0, 1) := by decide +kernel
theorem dX4_init_1 : decode cX4_init 1 = .ok (.invokespecial 3, 3) := by decide +kernel
theorem dX4_init_4 : decode cX4_init 4 = .ok (.aload_n 0, 1) := by decide +kernel
theorem dX4_init_5 : decode cX4_init 5 = .ok (.bipush 20, 2) := by decide +kernel
theorem dX4_init_7 : decode cX4_init 7 = .ok (.anewarray 9, 3) := by decide +kernel
theorem dX4_init_10 : decode cX4_init 10 = .ok (.putfield 11, 3) := by decide +kernel
theorem dX4_init_13 : decode cX4_init 13 = .ok (.aload_n 0, 1) := by decide +kernel
theorem dX4_init_14 : decode cX4_init 14 = .ok (.iconst 0, 1) := by decide +kernel
theorem dX4_init_15 : decode cX4_init 15 = .ok (.putfield 17, 3) := by decide +kernel
theorem dX4_init_18 : decode cX4_init 18 = .ok (.aload_n 0, 1) := by decide +kernel
theorem dX4_init_19 : decode cX4_init 19 = .ok (.iconst 0, 1) := by decide +kernel
theorem dX4_init_20 : decode cX4_init 20 = .ok (.putfield 21, 3) := by decide +kernel
theorem dX4_init_23 : decode cX4_init 23 = .ok (.iconst 0, 1) := by decide +kernel
theorem dX4_init_24 : decode cX4_init 24 = .ok (.istore_n 1, 1) := by decide +kernel
theorem dX4_init_25 : decode cX4_init 25 = .ok (.iload_n 1, 1) := by decide +kernel
theorem dX4_init_26 : decode cX4_init 26 = .ok (.bipush 20, 2) := by decide +kernel
theorem dX4_init_28 : decode cX4_init 28 = .ok (.if_icmp .ge 22, 3) := by decide +kernel
theorem dX4_init_31 : decode cX4_init 31 = .ok (.aload_n 0, 1) := by decide +kernel
theorem dX4_init_32 : decode cX4_init 32 = .ok (.getfield 11, 3) := by decide +kernel
theorem dX4_init_35 : decode cX4_init 35 = .ok (.iload_n 1, 1) := by decide +kernel
theorem dX4_init_36 : decode cX4_init 36 = .ok (.new 9, 3) := by decide +kernel
theorem dX4_init_39 : decode cX4_init 39 = .ok (.dup, 1) := by decide +kernel
theorem dX4_init_40 : decode cX4_init 40 = .ok (.invokespecial 24, 3) := by decide +kernel
theorem dX4_init_43 : decode cX4_init 43 = .ok (.aastore, 1) := by decide +kernel
theorem dX4_init_44 : decode cX4_init 44 = .ok (.iinc 1 1, 3) := by decide +kernel
theorem dX4_init_47 : decode cX4_init 47 = .ok (.goto (-22), 3) := by decide +kernel
theorem dX4_init_50 : decode cX4_init 50 = .ok (.return_, 1) := by decide +kernel
theorem inl_X4_24 : INL RX4 24 yX1_init "DewBaron" cX1_init 1 := ⟨xni_2 (i := 89) rfl rfl, tbi_1 (i := 166) rfl rfl, tbi_1 (i := 9) rfl rfl, tbi_1 (i := 167) rfl rfl, ⟨by decide +kernel, by decide +kernel, by decide +kernel⟩, by decide, rfl⟩
theorem cl_X4_9 : Cond.classLink RX4 9 RX1 ∈ tb := tbi_2 (i := 87) rfl rfl
theorem oi_X4_3 : Cond.methodLink RX4 3 Lib.objectInit ∈ tb ∧ Cond.instanceMethod Lib.objectInit ∈ tb ∧ Cond.code Lib.objectInit ⟨#[0xb1]⟩ 1 none ∈ tb := ⟨tbi_2 (i := 86) rfl rfl, tbi_1 (i := 27) rfl rfl, tbi_1 (i := 28) rfl rfl⟩
def X4_init_L (l0 : Nat) : Nat → Int → Nat → MLs → Option (Nat × MLs)
  | 0, _, _, _ => none
  | f + 1, i, n, L =>
    if 20 ≤ i then some (n, L) else
    (getCR 4 0 l0 n L).bind fun t =>
    (newO 1 4 n).bind fun n1 =>
    (X1_init n1 n1 L).bind fun p =>
    (astCR t i n1 1 p.1 p.2).bind fun L1 =>
    X4_init_L l0 f (wI (i + 1)) p.1 L1
def X4_init (l0 n : Nat) (L : MLs) : Option (Nat × MLs) :=
  (newA 4 20 n).bind fun n1 =>
  (putCR 4 0 l0 n1 n1 L).bind fun L1 =>
  (putC 4 1 l0 0 n1 L1).bind fun L2 =>
  (putC 4 2 l0 0 n1 L2).bind fun L3 =>
  X4_init_L l0 21 0 n1 L3
set_option maxRecDepth 100000 in
set_option maxHeartbeats 4000000 in
theorem X4_init_L_ok {g : Gm} {w : Wd} (C : Cx g w RX4 cX4_init 2 none) {l0 : Nat} {out : Nat × MLs} : ∀ (f : Nat) {i : Int} {n : Nat} {L : MLs} {cs sl : Nat}, 0 ≤ i → cs + 4 * (20 - i.toNat) ≤ 81 → sl + 61 * (20 - i.toNat) ≤ 1240 → X4_init_L l0 f i n L = some out →
    Jd g w 2 (rmL 2 81 1240) (MQ (gb g) (Qw w out.1 (mo out.2) none) (ga g) (gs g) 81 1240 (aw w)) 25 [some (vR l0), some (vI i)] [] n (mo L) cs sl := by
  intro f
  induction f with
  | zero => intro i n L cs sl _ _ _ h; exact none_ne (α := Nat × MLs) h
  | succ f ih =>
    intro i n L cs sl hi hc hs h
    rw [X4_init_L] at h
    refine j_iload_n C dX4_init_25 rfl ?_
    refine j_bipush C dX4_init_26 rfl ?_
    refine j_icmp_ge C 50 dX4_init_28 rfl h (fun c h => ?_) (fun c h => ?_)
    · have e := Option.some.inj h
      subst e
      exact j_vret C dX4_init_50 rfl (by omega) (by omega) rfl rfl rfl
    · refine j_aload_n C dX4_init_31 rfl ?_
      refine j_getCR C dX4_init_32 CF4 (by decide) fl_X4_11 rfl h (fun t h => ?_)
      refine j_iload_n C dX4_init_35 rfl ?_
      refine j_new C dX4_init_36 CF1 cl_X4_9 (tbi_1 (i := 164) rfl rfl) (tbi_1 (i := 9) rfl rfl) df1 (by show _ ≤ 81; omega) (by show _ ≤ 1240; omega) h (fun n1 h => ?_)
      refine j_dup C dX4_init_39 rfl ?_
      obtain ⟨p, ep, h⟩ := bind_some h
      have qp := X1_init_ct ep
      refine j_callIN C dX4_init_40 inl_X4_24 qp (Nat.le_of_ble_eq_true rfl) (Nat.le_of_ble_eq_true rfl) (by show _ ≤ 81; omega) (by show _ ≤ 1240; omega) (Nat.le_of_ble_eq_true rfl) ?_
      refine j_astCR C dX4_init_43 h (fun L1 h => ?_)
      refine j_iinc (ls' := [some (vR _), some (vI _)]) C dX4_init_44 rfl (by decide) rfl ?_
      refine j_goto C 25 dX4_init_47 rfl ?_
      have e : wI (i + 1) = i + 1 := wI_of (by unfold inI; omega)
      exact ih (by omega) (by rw [e]; omega) (by rw [e]; omega) h
set_option maxRecDepth 100000 in
set_option maxHeartbeats 4000000 in
theorem X4_init_ct {l0 n : Nat} {L : MLs} {out : Nat × MLs} (h : X4_init l0 n L = some out) : CT yX4_init cX4_init 2 none 2 81 1240 [vR l0] n (mo L) none out.1 (mo out.2) := by
  unfold X4_init at h
  refine CT.of (by decide +kernel) rfl (Nat.le_of_ble_eq_true rfl) (ls := [some (vR l0), none]) rfl fun g w C hnm => ?_
  refine j_aload_n C dX4_init_0 rfl ?_
  refine j_obj C dX4_init_1 oi_X4_3 rfl (by decide) (Nat.le_of_ble_eq_true rfl) ?_
  refine j_aload_n C dX4_init_4 rfl ?_
  refine j_bipush C dX4_init_5 rfl ?_
  refine j_anew C dX4_init_7 cl_X4_9 20 rfl (Nat.le_of_ble_eq_true rfl) (Nat.le_of_ble_eq_true rfl) h (fun n1 h => ?_)
  refine j_putCR C dX4_init_10 CF4 (by decide) fl_X4_11 rfl (Or.inr ⟨_, rfl⟩) (Or.inr ⟨rfl, hnm, rfl⟩) h (fun L1 h => ?_)
  refine j_aload_n C dX4_init_13 rfl ?_
  refine j_iconst C dX4_init_14 rfl ?_
  refine j_putCI C dX4_init_15 CF4 (by decide) fl_X4_17 rfl ⟨rfl, rfl⟩ (Or.inl rfl) h (fun L2 h => ?_)
  refine j_aload_n C dX4_init_18 rfl ?_
  refine j_iconst C dX4_init_19 rfl ?_
  refine j_putCI C dX4_init_20 CF4 (by decide) fl_X4_21 rfl ⟨rfl, rfl⟩ (Or.inl rfl) h (fun L3 h => ?_)
  refine j_iconst C dX4_init_23 rfl ?_
  refine j_istore_n (ls' := [some (vR _), some (vI _)]) C dX4_init_24 (by decide) rfl ?_
  exact X4_init_L_ok C 21 (by decide) (by decide) (by decide) h
