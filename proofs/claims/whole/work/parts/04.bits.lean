theorem and31 (y : Int) : Int32.ofInt y &&& 31 = Int32.ofNat (sI y) := by
  apply Int32.toBitVec_inj.mp
  apply BitVec.eq_of_toNat_eq
  rw [Int32.toBitVec_and, BitVec.toNat_and]
  have e1 : (31 : Int32).toBitVec.toNat = 2 ^ 5 - 1 := by decide
  rw [e1, Nat.and_two_pow_sub_one_eq_mod]
  have e2 : (Int32.ofInt y).toBitVec.toNat = (y % 4294967296).toNat := by
    show (BitVec.ofInt 32 y).toNat = _
    rw [BitVec.toNat_ofInt]; rfl
  have e3 : (Int32.ofNat (sI y)).toBitVec.toNat = sI y := by
    show (BitVec.ofNat 32 (sI y)).toNat = _
    rw [BitVec.toNat_ofNat]
    apply Nat.mod_eq_of_lt
    unfold sI; omega
  rw [e2, e3]; unfold sI; omega
theorem smod32 : ∀ n : Nat, n < 32 → (Int32.ofNat n).toBitVec.smod 32 = BitVec.ofNat 32 n := by decide +kernel
theorem smod64 : ∀ n : Nat, n < 64 → (Int64.ofNat n).toBitVec.smod 64 = BitVec.ofNat 64 n := by decide +kernel
theorem sI_lt (y : Int) : sI y < 32 := by unfold sI; omega
theorem sL_lt (y : Int) : sL y < 64 := by unfold sL; omega
theorem bvI {x : Int} (hx : inI x) : (Int32.ofInt x).toBitVec.toInt = x := by
  show (Int32.ofInt x).toInt = x
  exact toI_of hx
theorem bvL {x : Int} (hx : inL x) : (Int64.ofInt x).toBitVec.toInt = x := by
  show (Int64.ofInt x).toInt = x
  exact toL_of hx
theorem ofI_shr {x y : Int} (hx : inI x) : Int32.ofInt x >>> (Int32.ofInt y &&& 31) = Int32.ofInt (ishr x y) := by
  have hn := sI_lt y
  have key : (Int32.ofInt x >>> (Int32.ofInt y &&& 31)).toInt = ishr x y := by
    rw [and31]
    show (Int32.ofInt x >>> Int32.ofNat (sI y)).toBitVec.toInt = _
    rw [Int32.toBitVec_shiftRight, smod32 _ hn]
    show (BitVec.sshiftRight (Int32.ofInt x).toBitVec (BitVec.ofNat 32 (sI y)).toNat).toInt = _
    rw [BitVec.toInt_sshiftRight, bvI hx, BitVec.toNat_ofNat, Nat.mod_eq_of_lt (by omega), Int.shiftRight_eq_div_pow]
    unfold ishr; simp
  refine eqI ?_
  rw [key, ← key, wI_of (inI_toInt _)]
theorem ofI_shl {x y : Int} (hx : inI x) : Int32.ofInt x <<< (Int32.ofInt y &&& 31) = Int32.ofInt (ishl x y) := by
  have hn := sI_lt y
  have key : (Int32.ofInt x <<< (Int32.ofInt y &&& 31)).toInt = ishl x y := by
    rw [and31]
    show (Int32.ofInt x <<< Int32.ofNat (sI y)).toBitVec.toInt = _
    rw [Int32.toBitVec_shiftLeft, smod32 _ hn]
    show ((Int32.ofInt x).toBitVec <<< (BitVec.ofNat 32 (sI y)).toNat).toInt = _
    rw [BitVec.toInt_shiftLeft, BitVec.toNat_ofNat, Nat.mod_eq_of_lt (by omega)]
    have e2 : (Int32.ofInt x).toBitVec.toNat = (x % 4294967296).toNat := by
      show (BitVec.ofInt 32 x).toNat = _
      rw [BitVec.toNat_ofInt]; rfl
    rw [e2, show ((2 : Nat) ^ 32) = 4294967296 from rfl, bmod_wI, Nat.shiftLeft_eq]
    unfold ishl
    have h0 : (0 : Int) ≤ x % 4294967296 := by omega
    rw [Int.natCast_mul, Int.toNat_of_nonneg h0, Int.natCast_pow]
    have e3 : (x % 4294967296) * ((2 : Nat) : Int) ^ sI y = x * 2 ^ sI y + 4294967296 * (-(x / 4294967296) * 2 ^ sI y) := by
      have : x % 4294967296 = x - 4294967296 * (x / 4294967296) := by omega
      rw [this, show (((2 : Nat) : Int)) = 2 from rfl, Int.sub_mul, Int.mul_assoc, Int.neg_mul, Int.mul_neg]
      rfl
    rw [e3]
    unfold wI
    rw [show x * 2 ^ sI y + 4294967296 * (-(x / 4294967296) * 2 ^ sI y) + 2147483648 = (x * 2 ^ sI y + 2147483648) + 4294967296 * (-(x / 4294967296) * 2 ^ sI y) by omega, Int.add_mul_emod_self_left]
  refine eqI ?_
  rw [key, ← key, wI_of (inI_toInt _)]
theorem ofI_and (x y : Int) : Int32.ofInt x &&& Int32.ofInt y = Int32.ofInt (iand x y) := by unfold iand; rw [Int32.ofInt_toInt]
theorem ofI_or (x y : Int) : Int32.ofInt x ||| Int32.ofInt y = Int32.ofInt (ior x y) := by unfold ior; rw [Int32.ofInt_toInt]
theorem ofL_and (x y : Int) : Int64.ofInt x &&& Int64.ofInt y = Int64.ofInt (land x y) := by unfold land; rw [Int64.ofInt_toInt]
theorem ofL_or (x y : Int) : Int64.ofInt x ||| Int64.ofInt y = Int64.ofInt (lor x y) := by unfold lor; rw [Int64.ofInt_toInt]
theorem and63 (y : Int) (hy : inI y) : (Int32.ofInt y).toInt64 &&& 63 = Int64.ofNat (sL y) := by
  apply Int64.toBitVec_inj.mp
  apply BitVec.eq_of_toNat_eq
  rw [Int64.toBitVec_and, BitVec.toNat_and]
  have e1 : (63 : Int64).toBitVec.toNat = 2 ^ 6 - 1 := by decide
  rw [e1, Nat.and_two_pow_sub_one_eq_mod]
  have e0 : (Int32.ofInt y).toInt64 = Int64.ofInt y := by
    apply Int64.toInt_inj.mp
    rw [Int32.toInt_toInt64, toI_of hy, toL_of (by unfold inI at hy; unfold inL; omega)]
  have e2 : (Int32.ofInt y).toInt64.toBitVec.toNat = (y % 18446744073709551616).toNat := by
    rw [e0]
    show (BitVec.ofInt 64 y).toNat = _
    rw [BitVec.toNat_ofInt]; rfl
  have e3 : (Int64.ofNat (sL y)).toBitVec.toNat = sL y := by
    show (BitVec.ofNat 64 (sL y)).toNat = _
    rw [BitVec.toNat_ofNat]
    apply Nat.mod_eq_of_lt
    unfold sL; omega
  rw [e2, e3]; unfold sL; omega
theorem ofL_shr {x y : Int} (hx : inL x) (hy : inI y) : Int64.ofInt x >>> ((Int32.ofInt y).toInt64 &&& 63) = Int64.ofInt (lshr x y) := by
  have hn := sL_lt y
  have key : (Int64.ofInt x >>> ((Int32.ofInt y).toInt64 &&& 63)).toInt = lshr x y := by
    rw [and63 y hy]
    show (Int64.ofInt x >>> Int64.ofNat (sL y)).toBitVec.toInt = _
    rw [Int64.toBitVec_shiftRight, smod64 _ hn]
    show (BitVec.sshiftRight (Int64.ofInt x).toBitVec (BitVec.ofNat 64 (sL y)).toNat).toInt = _
    rw [BitVec.toInt_sshiftRight, bvL hx, BitVec.toNat_ofNat, Nat.mod_eq_of_lt (by omega), Int.shiftRight_eq_div_pow]
    unfold lshr; simp
  refine eqL ?_
  rw [key, ← key, wL_of (inL_toInt _)]
theorem ofL_shl {x y : Int} (hx : inL x) (hy : inI y) : Int64.ofInt x <<< ((Int32.ofInt y).toInt64 &&& 63) = Int64.ofInt (lshl x y) := by
  have hn := sL_lt y
  have key : (Int64.ofInt x <<< ((Int32.ofInt y).toInt64 &&& 63)).toInt = lshl x y := by
    rw [and63 y hy]
    show (Int64.ofInt x <<< Int64.ofNat (sL y)).toBitVec.toInt = _
    rw [Int64.toBitVec_shiftLeft, smod64 _ hn]
    show ((Int64.ofInt x).toBitVec <<< (BitVec.ofNat 64 (sL y)).toNat).toInt = _
    rw [BitVec.toInt_shiftLeft, BitVec.toNat_ofNat, Nat.mod_eq_of_lt (by omega)]
    have e2 : (Int64.ofInt x).toBitVec.toNat = (x % 18446744073709551616).toNat := by
      show (BitVec.ofInt 64 x).toNat = _
      rw [BitVec.toNat_ofInt]; rfl
    rw [e2, show ((2 : Nat) ^ 64) = 18446744073709551616 from rfl, bmod_wL, Nat.shiftLeft_eq]
    unfold lshl
    have h0 : (0 : Int) ≤ x % 18446744073709551616 := by omega
    rw [Int.natCast_mul, Int.toNat_of_nonneg h0, Int.natCast_pow]
    have e3 : (x % 18446744073709551616) * ((2 : Nat) : Int) ^ sL y = x * 2 ^ sL y + 18446744073709551616 * (-(x / 18446744073709551616) * 2 ^ sL y) := by
      have : x % 18446744073709551616 = x - 18446744073709551616 * (x / 18446744073709551616) := by omega
      rw [this, show (((2 : Nat) : Int)) = 2 from rfl, Int.sub_mul, Int.mul_assoc, Int.neg_mul, Int.mul_neg]
      rfl
    rw [e3]
    unfold wL
    rw [show x * 2 ^ sL y + 18446744073709551616 * (-(x / 18446744073709551616) * 2 ^ sL y) + 9223372036854775808 = (x * 2 ^ sL y + 9223372036854775808) + 18446744073709551616 * (-(x / 18446744073709551616) * 2 ^ sL y) by omega, Int.add_mul_emod_self_left]
  refine eqL ?_
  rw [key, ← key, wL_of (inL_toInt _)]
theorem ofI_rem {x y : Int} (hx : inI x) (hy : inI y) : Int32.ofInt x - Int32.ofInt x / Int32.ofInt y * Int32.ofInt y = Int32.ofInt (wI (x.tmod y)) := by
  rw [ofI_div hx hy, ofI_mul (inI_wI _) hy, ofI_sub]
  refine eqI ?_
  rw [toI, wI_of (inI_wI _), wI_of (inI_wI _)]
  have e : x.tmod y = x - y * x.tdiv y := by have := Int.mul_tdiv_add_tmod x y; omega
  rw [e]
  have h : ∀ a b : Int, wI (a - wI (wI b * y)) = wI (a - b * y) := by
    intro a b
    have hb : ∃ k : Int, wI b = b + 4294967296 * k := ⟨-((b + 2147483648) / 4294967296), by unfold wI; omega⟩
    obtain ⟨k, hk⟩ := hb
    rw [hk, Int.add_mul, Int.mul_assoc]
    generalize k * y = z
    generalize b * y = c
    unfold wI; omega
  rw [h, Int.mul_comm]
theorem ofL_rem {x y : Int} (hx : inL x) (hy : inL y) : Int64.ofInt x - Int64.ofInt x / Int64.ofInt y * Int64.ofInt y = Int64.ofInt (wL (x.tmod y)) := by
  rw [ofL_div hx hy, ofL_mul (inL_wL _) hy, ofL_sub]
  refine eqL ?_
  rw [toL, wL_of (inL_wL _), wL_of (inL_wL _)]
  have e : x.tmod y = x - y * x.tdiv y := by have := Int.mul_tdiv_add_tmod x y; omega
  rw [e]
  have h : ∀ a b : Int, wL (a - wL (wL b * y)) = wL (a - b * y) := by
    intro a b
    have hb : ∃ k : Int, wL b = b + 18446744073709551616 * k := ⟨-((b + 9223372036854775808) / 18446744073709551616), by unfold wL; omega⟩
    obtain ⟨k, hk⟩ := hb
    rw [hk, Int.add_mul, Int.mul_assoc]
    generalize k * y = z
    generalize b * y = c
    unfold wL; omega
  rw [h, Int.mul_comm]
theorem ofI_i2l {x : Int} (hx : inI x) : (Int32.ofInt x).toInt64 = Int64.ofInt x := by
  apply Int64.toInt_inj.mp
  rw [Int32.toInt_toInt64, toI_of hx, toL_of (by unfold inI at hx; unfold inL; omega)]
theorem ofL_l2i (x : Int) : (Int64.ofInt x).toInt32 = Int32.ofInt (wI x) := by
  refine eqI ?_
  rw [Int64.toInt_toInt32, toL, show ((2 : Nat) ^ 32) = 4294967296 from rfl, bmod_wI, wI_of (inI_wI _)]
  unfold wI wL; omega
theorem inI_inL {x : Int} (h : inI x) : inL x := by unfold inI at h; unfold inL; omega
theorem inI_iand (x y : Int) : inI (iand x y) := inI_toInt _
theorem inI_ior (x y : Int) : inI (ior x y) := inI_toInt _
theorem inL_land (x y : Int) : inL (land x y) := inL_toInt _
theorem inL_lor (x y : Int) : inL (lor x y) := inL_toInt _
theorem inI_ishl (x y : Int) : inI (ishl x y) := inI_wI _
theorem inL_lshl (x y : Int) : inL (lshl x y) := inL_wL _
theorem pow_pos2 (n : Nat) : (0 : Int) < 2 ^ n := Int.pow_pos (by omega)
theorem inI_ishr {x : Int} (h : inI x) (y : Int) : inI (ishr x y) := by
  have hn := pow_pos2 (sI y)
  unfold ishr inI at *
  refine ⟨?_, ?_⟩
  · have : -2147483648 * 2 ^ sI y ≤ x := by
      have : (1 : Int) ≤ 2 ^ sI y := hn
      have : (2147483648 : Int) * 1 ≤ 2147483648 * 2 ^ sI y := Int.mul_le_mul_of_nonneg_left this (by omega)
      omega
    exact (Int.le_ediv_iff_mul_le hn).mpr this
  · apply Int.ediv_lt_of_lt_mul hn
    have : (1 : Int) ≤ 2 ^ sI y := hn
    have : (2147483648 : Int) * 1 ≤ 2147483648 * 2 ^ sI y := Int.mul_le_mul_of_nonneg_left this (by omega)
    omega
theorem inL_lshr {x : Int} (h : inL x) (y : Int) : inL (lshr x y) := by
  have hn := pow_pos2 (sL y)
  unfold lshr inL at *
  refine ⟨?_, ?_⟩
  · have : -9223372036854775808 * 2 ^ sL y ≤ x := by
      have : (1 : Int) ≤ 2 ^ sL y := hn
      have : (9223372036854775808 : Int) * 1 ≤ 9223372036854775808 * 2 ^ sL y := Int.mul_le_mul_of_nonneg_left this (by omega)
      omega
    exact (Int.le_ediv_iff_mul_le hn).mpr this
  · apply Int.ediv_lt_of_lt_mul hn
    have : (1 : Int) ≤ 2 ^ sL y := hn
    have : (9223372036854775808 : Int) * 1 ≤ 9223372036854775808 * 2 ^ sL y := Int.mul_le_mul_of_nonneg_left this (by omega)
    omega
