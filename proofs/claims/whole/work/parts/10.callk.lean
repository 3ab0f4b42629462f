theorem bind_some {α β : Type} {o : Option α} {K : α → Option β} {out : β} (h : o.bind K = some out) : ∃ v, o = some v ∧ K v = some out := by
  cases o with
  | none => cases h
  | some v => exact ⟨v, rfl, h⟩
theorem le312 {a ci : Nat} (h : shK a = ci + 10) : a ≤ 312 := shK_le (by omega)
theorem ite_some {α : Type} {c : Prop} [Decidable c] {X : Option α} {out : α} (h : (if c then X else none) = some out) : c ∧ X = some out := by
  by_cases q : c
  · rw [if_pos q] at h; exact ⟨q, h⟩
  · rw [if_neg q] at h; cases h
abbrev Qm (g : Gm) (w : Wd) (r : Option V) (m' : Mem) : State → Prop := MQ (gb g) (Qw w 312 m' r) (ga g) (gs g) 0 0 (aw w)
def retZ (x : Int) : Option Int := if x = 0 ∨ x = 1 then some x else none
theorem retZ_some {x r : Int} (h : retZ x = some r) : (x = 0 ∨ x = 1) ∧ r = x := by
  unfold retZ at h
  obtain ⟨q, e⟩ := ite_some h
  exact ⟨q, (Option.some.inj e).symm⟩
section JK
variable {g : Gm} {w : Wd} {own : String} {cc : ByteArray} {nL : Nat} {rt : Option FieldType} {Q : State → Prop} {pc : Nat} {ls : List (Option V)} {st : List V} {m : Mem}
theorem j_cVI (C : Cx g w own cc nL rt) {idx k maxL lv lv' ci N : Nat} {y : MethodName} {bytes : ByteArray} {ret : Option FieldType} {a : Nat} {As : List V} {x : Int} {m' : Mem} {Cn : String} {T : u_T} {ty : Nat → FieldType} {st0 : List V}
    (d : decode cc pc = .ok (.invokevirtual idx, 3)) (L : VL own idx y bytes maxL ret k) (F : CF ci Cn T N ty) (hcn : Cn = y.cls) (hK : shK a = ci + 10) (hct : CT y bytes maxL ret lv' 0 0 (vR a :: As) 312 m (some (vI x)) 312 m')
    (hlv : lv' < lv) (hk : As.length = k) (hst0 : st0 = As.reverse ++ vR a :: st) (hcat : (st.map vcat).sum ≤ 8)
    (kk : Jd g w nL (rmL lv 0 0) Q (pc + 3) ls (vI x :: st) 312 m' 0 0) : Jd g w nL (rmL lv 0 0) Q pc ls st0 312 m 0 0 :=
  j_callV C d L F hcn hK (le312 hK) hct rfl hlv (Nat.le_refl 0) (Nat.le_refl 0) hk hst0 hcat kk
theorem j_cSI (C : Cx g w own cc nL rt) {idx k maxL lv lv' : Nat} {y : MethodName} {bytes : ByteArray} {ret : Option FieldType} {As : List V} {x : Int} {m' : Mem} {st0 : List V}
    (d : decode cc pc = .ok (.invokestatic idx, 3)) (L : SL own idx y bytes maxL ret k) (hct : CT y bytes maxL ret lv' 0 0 As 312 m (some (vI x)) 312 m')
    (hlv : lv' < lv) (hk : As.length = k) (hst0 : st0 = As.reverse ++ st) (hcat : (st.map vcat).sum ≤ 8)
    (kk : Jd g w nL (rmL lv 0 0) Q (pc + 3) ls (vI x :: st) 312 m' 0 0) : Jd g w nL (rmL lv 0 0) Q pc ls st0 312 m 0 0 :=
  j_callS C d L hct rfl hlv (Nat.le_refl 0) (Nat.le_refl 0) hk hst0 hcat kk
theorem j_cSNI (C : Cx g w own cc nL rt) {idx k maxL lv lv' : Nat} {y : MethodName} {host : String} {bytes : ByteArray} {ret : Option FieldType} {As : List V} {x : Int} {m' : Mem} {st0 : List V}
    (d : decode cc pc = .ok (.invokestatic idx, 3)) (L : SNL own idx y host bytes maxL ret k) (hct : CT y bytes maxL ret lv' 0 0 As 312 m (some (vI x)) 312 m')
    (hlv : lv' < lv) (hk : As.length = k) (hst0 : st0 = As.reverse ++ st) (hcat : (st.map vcat).sum ≤ 8)
    (kk : Jd g w nL (rmL lv 0 0) Q (pc + 3) ls (vI x :: st) 312 m' 0 0) : Jd g w nL (rmL lv 0 0) Q pc ls st0 312 m 0 0 :=
  j_callSN C d L hct rfl hlv (Nat.le_refl 0) (Nat.le_refl 0) hk hst0 hcat kk
theorem j_cVL (C : Cx g w own cc nL rt) {idx k maxL lv lv' ci N : Nat} {y : MethodName} {bytes : ByteArray} {ret : Option FieldType} {a : Nat} {As : List V} {x : Int} {m' : Mem} {Cn : String} {T : u_T} {ty : Nat → FieldType} {st0 : List V}
    (d : decode cc pc = .ok (.invokevirtual idx, 3)) (L : VL own idx y bytes maxL ret k) (F : CF ci Cn T N ty) (hcn : Cn = y.cls) (hK : shK a = ci + 10) (hct : CT y bytes maxL ret lv' 0 0 (vR a :: As) 312 m (some (vL x)) 312 m')
    (hlv : lv' < lv) (hk : As.length = k) (hst0 : st0 = As.reverse ++ vR a :: st) (hcat : (st.map vcat).sum ≤ 8)
    (kk : Jd g w nL (rmL lv 0 0) Q (pc + 3) ls (vL x :: st) 312 m' 0 0) : Jd g w nL (rmL lv 0 0) Q pc ls st0 312 m 0 0 :=
  j_callV C d L F hcn hK (le312 hK) hct rfl hlv (Nat.le_refl 0) (Nat.le_refl 0) hk hst0 hcat kk
theorem j_cSL (C : Cx g w own cc nL rt) {idx k maxL lv lv' : Nat} {y : MethodName} {bytes : ByteArray} {ret : Option FieldType} {As : List V} {x : Int} {m' : Mem} {st0 : List V}
    (d : decode cc pc = .ok (.invokestatic idx, 3)) (L : SL own idx y bytes maxL ret k) (hct : CT y bytes maxL ret lv' 0 0 As 312 m (some (vL x)) 312 m')
    (hlv : lv' < lv) (hk : As.length = k) (hst0 : st0 = As.reverse ++ st) (hcat : (st.map vcat).sum ≤ 8)
    (kk : Jd g w nL (rmL lv 0 0) Q (pc + 3) ls (vL x :: st) 312 m' 0 0) : Jd g w nL (rmL lv 0 0) Q pc ls st0 312 m 0 0 :=
  j_callS C d L hct rfl hlv (Nat.le_refl 0) (Nat.le_refl 0) hk hst0 hcat kk
theorem j_cSNL (C : Cx g w own cc nL rt) {idx k maxL lv lv' : Nat} {y : MethodName} {host : String} {bytes : ByteArray} {ret : Option FieldType} {As : List V} {x : Int} {m' : Mem} {st0 : List V}
    (d : decode cc pc = .ok (.invokestatic idx, 3)) (L : SNL own idx y host bytes maxL ret k) (hct : CT y bytes maxL ret lv' 0 0 As 312 m (some (vL x)) 312 m')
    (hlv : lv' < lv) (hk : As.length = k) (hst0 : st0 = As.reverse ++ st) (hcat : (st.map vcat).sum ≤ 8)
    (kk : Jd g w nL (rmL lv 0 0) Q (pc + 3) ls (vL x :: st) 312 m' 0 0) : Jd g w nL (rmL lv 0 0) Q pc ls st0 312 m 0 0 :=
  j_callSN C d L hct rfl hlv (Nat.le_refl 0) (Nat.le_refl 0) hk hst0 hcat kk
theorem j_cVR (C : Cx g w own cc nL rt) {idx k maxL lv lv' ci N : Nat} {y : MethodName} {bytes : ByteArray} {ret : Option FieldType} {a : Nat} {As : List V} {x : Nat} {m' : Mem} {Cn : String} {T : u_T} {ty : Nat → FieldType} {st0 : List V}
    (d : decode cc pc = .ok (.invokevirtual idx, 3)) (L : VL own idx y bytes maxL ret k) (F : CF ci Cn T N ty) (hcn : Cn = y.cls) (hK : shK a = ci + 10) (hct : CT y bytes maxL ret lv' 0 0 (vR a :: As) 312 m (some (vR x)) 312 m')
    (hlv : lv' < lv) (hk : As.length = k) (hst0 : st0 = As.reverse ++ vR a :: st) (hcat : (st.map vcat).sum ≤ 8)
    (kk : Jd g w nL (rmL lv 0 0) Q (pc + 3) ls (vR x :: st) 312 m' 0 0) : Jd g w nL (rmL lv 0 0) Q pc ls st0 312 m 0 0 :=
  j_callV C d L F hcn hK (le312 hK) hct rfl hlv (Nat.le_refl 0) (Nat.le_refl 0) hk hst0 hcat kk
theorem j_cSR (C : Cx g w own cc nL rt) {idx k maxL lv lv' : Nat} {y : MethodName} {bytes : ByteArray} {ret : Option FieldType} {As : List V} {x : Nat} {m' : Mem} {st0 : List V}
    (d : decode cc pc = .ok (.invokestatic idx, 3)) (L : SL own idx y bytes maxL ret k) (hct : CT y bytes maxL ret lv' 0 0 As 312 m (some (vR x)) 312 m')
    (hlv : lv' < lv) (hk : As.length = k) (hst0 : st0 = As.reverse ++ st) (hcat : (st.map vcat).sum ≤ 8)
    (kk : Jd g w nL (rmL lv 0 0) Q (pc + 3) ls (vR x :: st) 312 m' 0 0) : Jd g w nL (rmL lv 0 0) Q pc ls st0 312 m 0 0 :=
  j_callS C d L hct rfl hlv (Nat.le_refl 0) (Nat.le_refl 0) hk hst0 hcat kk
theorem j_cSNR (C : Cx g w own cc nL rt) {idx k maxL lv lv' : Nat} {y : MethodName} {host : String} {bytes : ByteArray} {ret : Option FieldType} {As : List V} {x : Nat} {m' : Mem} {st0 : List V}
    (d : decode cc pc = .ok (.invokestatic idx, 3)) (L : SNL own idx y host bytes maxL ret k) (hct : CT y bytes maxL ret lv' 0 0 As 312 m (some (vR x)) 312 m')
    (hlv : lv' < lv) (hk : As.length = k) (hst0 : st0 = As.reverse ++ st) (hcat : (st.map vcat).sum ≤ 8)
    (kk : Jd g w nL (rmL lv 0 0) Q (pc + 3) ls (vR x :: st) 312 m' 0 0) : Jd g w nL (rmL lv 0 0) Q pc ls st0 312 m 0 0 :=
  j_callSN C d L hct rfl hlv (Nat.le_refl 0) (Nat.le_refl 0) hk hst0 hcat kk
theorem j_cVV (C : Cx g w own cc nL rt) {idx k maxL lv lv' ci N : Nat} {y : MethodName} {bytes : ByteArray} {ret : Option FieldType} {a : Nat} {As : List V}  {m' : Mem} {Cn : String} {T : u_T} {ty : Nat → FieldType} {st0 : List V}
    (d : decode cc pc = .ok (.invokevirtual idx, 3)) (L : VL own idx y bytes maxL ret k) (F : CF ci Cn T N ty) (hcn : Cn = y.cls) (hK : shK a = ci + 10) (hct : CT y bytes maxL ret lv' 0 0 (vR a :: As) 312 m none 312 m')
    (hlv : lv' < lv) (hk : As.length = k) (hst0 : st0 = As.reverse ++ vR a :: st) (hcat : (st.map vcat).sum ≤ 8)
    (kk : Jd g w nL (rmL lv 0 0) Q (pc + 3) ls (st) 312 m' 0 0) : Jd g w nL (rmL lv 0 0) Q pc ls st0 312 m 0 0 :=
  j_callV C d L F hcn hK (le312 hK) hct rfl hlv (Nat.le_refl 0) (Nat.le_refl 0) hk hst0 hcat kk
theorem j_cSV (C : Cx g w own cc nL rt) {idx k maxL lv lv' : Nat} {y : MethodName} {bytes : ByteArray} {ret : Option FieldType} {As : List V}  {m' : Mem} {st0 : List V}
    (d : decode cc pc = .ok (.invokestatic idx, 3)) (L : SL own idx y bytes maxL ret k) (hct : CT y bytes maxL ret lv' 0 0 As 312 m none 312 m')
    (hlv : lv' < lv) (hk : As.length = k) (hst0 : st0 = As.reverse ++ st) (hcat : (st.map vcat).sum ≤ 8)
    (kk : Jd g w nL (rmL lv 0 0) Q (pc + 3) ls (st) 312 m' 0 0) : Jd g w nL (rmL lv 0 0) Q pc ls st0 312 m 0 0 :=
  j_callS C d L hct rfl hlv (Nat.le_refl 0) (Nat.le_refl 0) hk hst0 hcat kk
theorem j_cSNV (C : Cx g w own cc nL rt) {idx k maxL lv lv' : Nat} {y : MethodName} {host : String} {bytes : ByteArray} {ret : Option FieldType} {As : List V}  {m' : Mem} {st0 : List V}
    (d : decode cc pc = .ok (.invokestatic idx, 3)) (L : SNL own idx y host bytes maxL ret k) (hct : CT y bytes maxL ret lv' 0 0 As 312 m none 312 m')
    (hlv : lv' < lv) (hk : As.length = k) (hst0 : st0 = As.reverse ++ st) (hcat : (st.map vcat).sum ≤ 8)
    (kk : Jd g w nL (rmL lv 0 0) Q (pc + 3) ls (st) 312 m' 0 0) : Jd g w nL (rmL lv 0 0) Q pc ls st0 312 m 0 0 :=
  j_callSN C d L hct rfl hlv (Nat.le_refl 0) (Nat.le_refl 0) hk hst0 hcat kk
theorem j_ri (C : Cx g w own cc nL rt) {lv : Nat} {x r : Int} {m' : Mem} (d : decode cc pc = .ok (.ireturn, 1)) (hrt : rt = some .int) (hr : r = x) (hm : m' = m) : Jd g w nL (rmL lv 0 0) (Qm g w (some (vI r)) m') pc ls [vI x] 312 m 0 0 :=
  j_iret C d hrt (Nat.le_refl 0) (Nat.le_refl 0) (by rw [hr]) rfl hm
theorem j_rz (C : Cx g w own cc nL rt) {lv : Nat} {x r : Int} {m' : Mem} (d : decode cc pc = .ok (.ireturn, 1)) (hrt : rt = some .boolean) (hr : (x = 0 ∨ x = 1) ∧ r = x) (hm : m' = m) : Jd g w nL (rmL lv 0 0) (Qm g w (some (vI r)) m') pc ls [vI x] 312 m 0 0 :=
  j_zret C d hrt (Nat.le_refl 0) (Nat.le_refl 0) hr.1 (by rw [hr.2]) rfl hm
theorem j_rl (C : Cx g w own cc nL rt) {lv : Nat} {x r : Int} {m' : Mem} (d : decode cc pc = .ok (.lreturn, 1)) (hrt : rt = some .long) (hr : r = x) (hm : m' = m) : Jd g w nL (rmL lv 0 0) (Qm g w (some (vL r)) m') pc ls [vL x] 312 m 0 0 :=
  j_lret C d hrt (Nat.le_refl 0) (Nat.le_refl 0) (by rw [hr]) rfl hm
theorem j_ra (C : Cx g w own cc nL rt) {lv : Nat} {x r : Nat} {m' : Mem} {cn : String} (d : decode cc pc = .ok (.areturn, 1)) (hrt : rt = some (.object cn)) (hr : r = x) (hm : m' = m) : Jd g w nL (rmL lv 0 0) (Qm g w (some (vR r)) m') pc ls [vR x] 312 m 0 0 :=
  j_aret C d hrt (Nat.le_refl 0) (Nat.le_refl 0) (by rw [hr]) rfl hm
theorem j_rv (C : Cx g w own cc nL rt) {lv : Nat} {m' : Mem} (d : decode cc pc = .ok (.return_, 1)) (hrt : rt = none) (hm : m' = m) : Jd g w nL (rmL lv 0 0) (Qm g w none m') pc ls [] 312 m 0 0 :=
  j_vret C d hrt (Nat.le_refl 0) (Nat.le_refl 0) rfl rfl hm
end JK
theorem CF0 : CF 0 RX0 TX0 10 tyX0 := ⟨rfl, fun q h => (show ∀ q ∈ wsX00, q ∈ tb by decide +kernel) q h, tyX0_ok, nmX0⟩
theorem CF1 : CF 1 RX1 TX1 4 tyX1 := ⟨rfl, fun q h => (show ∀ q ∈ wsX10, q ∈ tb by decide +kernel) q h, tyX1_ok, nmX1⟩
theorem CF2 : CF 2 RX2 TX2 5 tyX2 := ⟨rfl, fun q h => (show ∀ q ∈ wsX20, q ∈ tb by decide +kernel) q h, tyX2_ok, nmX2⟩
theorem CF3 : CF 3 RX3 TX3 9 tyX3 := ⟨rfl, fun q h => (show ∀ q ∈ wsX30, q ∈ tb by decide +kernel) q h, tyX3_ok, nmX3⟩
theorem CF4 : CF 4 RX4 TX4 3 tyX4 := ⟨rfl, fun q h => (show ∀ q ∈ wsX40, q ∈ tb by decide +kernel) q h, tyX4_ok, nmX4⟩
theorem CF5 : CF 5 RX5 TX5 20 tyX5 := ⟨rfl, fun q h => (show ∀ q ∈ wsX50, q ∈ tb by decide +kernel) q h, tyX5_ok, nmX5⟩
theorem CF6 : CF 6 RX6 TX6 12 tyX6 := ⟨rfl, fun q h => (show ∀ q ∈ wsX60, q ∈ tb by decide +kernel) q h, tyX6_ok, nmX6⟩
theorem CF7 : CF 7 RX7 TX7 6 tyX7 := ⟨rfl, fun q h => (show ∀ q ∈ wsX70, q ∈ tb by decide +kernel) q h, tyX7_ok, nmX7⟩
theorem CF8 : CF 8 RX8 TX8 5 tyX8 := ⟨rfl, fun q h => (show ∀ q ∈ wsX80, q ∈ tb by decide +kernel) q h, tyX8_ok, nmX8⟩
theorem CF9 : CF 9 RX9 TX9 5 tyX9 := ⟨rfl, fun q h => (show ∀ q ∈ wsX90, q ∈ tb by decide +kernel) q h, tyX9_ok, nmX9⟩
theorem CF10 : CF 10 RX10 TX10 19 tyX10 := ⟨rfl, fun q h => (show ∀ q ∈ wsX100, q ∈ tb by decide +kernel) q h, tyX10_ok, nmX10⟩
theorem CF11 : CF 11 RX11 TX11 78 tyX11 := ⟨rfl, fun q h => (show ∀ q ∈ wsX110, q ∈ tb by decide +kernel) q h, tyX11_ok, nmX11⟩
theorem ite_none {α : Type} {c : Prop} [Decidable c] {X : Option α} {out : α} (h : (if c then none else X) = some out) : ¬ c ∧ X = some out := by
  by_cases q : c
  · rw [if_pos q] at h; cases h
  · rw [if_neg q] at h; exact ⟨q, h⟩
theorem ite_cases {α : Type} {c : Prop} [Decidable c] {X Y : Option α} {out : α} (h : (if c then X else Y) = some out) : (c ∧ X = some out) ∨ (¬ c ∧ Y = some out) := by
  by_cases q : c
  · rw [if_pos q] at h; exact Or.inl ⟨q, h⟩
  · rw [if_neg q] at h; exact Or.inr ⟨q, h⟩
def lxor (x y : Int) : Int := (Int64.ofInt x ^^^ Int64.ofInt y).toInt
theorem j_lxor {g : Gm} {w : Wd} {own : String} {cc : ByteArray} {nL : Nat} {rt : Option FieldType} {R : Room} {Q : State → Prop} {pc : Nat} {ls : List (Option V)} {st : List V} {n : Nat} {m : Mem} {cs sl : Nat} (C : Cx g w own cc nL rt) {x y : Int} (d : decode cc pc = .ok (.lxor, 1)) (k : Jd g w nL R Q (pc + 1) ls (vL (lxor x y) :: st) n m cs sl) : Jd g w nL R Q pc ls (vL y :: vL x :: st) n m cs sl := by
  intro H locs la hR hS hl ho hs
  refine lv_lxor C.1 C.2.1 d ?_
  have e : Int64.ofInt x ^^^ Int64.ofInt y = Int64.ofInt (lxor x y) := by unfold lxor; rw [Int64.ofInt_toInt]
  rw [e]
  exact k H locs la hR hS hl ho ⟨inL_toInt _, hs.2.2⟩
