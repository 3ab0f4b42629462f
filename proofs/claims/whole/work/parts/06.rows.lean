section JR
variable {g : Gm} {w : Wd} {own : String} {cc : ByteArray} {nL : Nat} {rt : Option FieldType} {R : Room} {Q : State → Prop} {pc : Nat} {ls : List (Option V)} {st : List V} {n : Nat} {m : Mem} {cs sl : Nat}
def inIb (v : Int) : Bool := decide (-2147483648 ≤ v) && decide (v < 2147483648)
def inLb (v : Int) : Bool := decide (-9223372036854775808 ≤ v) && decide (v < 9223372036854775808)
theorem inI_b {v : Int} (h : inIb v = true) : inI v := by unfold inIb at h; unfold inI; simp at h; omega
theorem inL_b {v : Int} (h : inLb v = true) : inL v := by unfold inLb at h; unfold inL; simp at h; omega
theorem j_iconst (C : Cx g w own cc nL rt) {v : Int} (d : decode cc pc = .ok (.iconst v, 1)) (hv : inIb v = true) (k : Jd g w nL R Q (pc + 1) ls (vI v :: st) n m cs sl) : Jd g w nL R Q pc ls st n m cs sl := by
  intro H locs la hR hS hl ho hs
  exact lv_iconst C.1 C.2.1 d rfl (k H locs la hR hS hl ho ⟨inI_b hv, hs⟩)
theorem i8 {v : Int} (h : (decide (-128 ≤ v) && decide (v < 128)) = true) : (Int8.ofInt v).toInt32 = Int32.ofInt v := by
  simp at h
  refine eqI ?_
  rw [Int8.toInt_toInt32, Int8.toInt_ofInt, wI_of (by unfold inI; omega)]
  show v.bmod 256 = v
  unfold Int.bmod; simp only []; split <;> omega
theorem i16 {v : Int} (h : (decide (-32768 ≤ v) && decide (v < 32768)) = true) : (Int16.ofInt v).toInt32 = Int32.ofInt v := by
  simp at h
  refine eqI ?_
  rw [Int16.toInt_toInt32, Int16.toInt_ofInt, wI_of (by unfold inI; omega)]
  show v.bmod 65536 = v
  unfold Int.bmod; simp only []; split <;> omega
theorem j_bipush (C : Cx g w own cc nL rt) {v : Int} (d : decode cc pc = .ok (.bipush v, 2)) (hv : (decide (-128 ≤ v) && decide (v < 128)) = true) (k : Jd g w nL R Q (pc + 2) ls (vI v :: st) n m cs sl) : Jd g w nL R Q pc ls st n m cs sl := by
  intro H locs la hR hS hl ho hs
  exact lv_bipush C.1 C.2.1 d (i8 hv) (k H locs la hR hS hl ho ⟨by simp at hv; show inI v; unfold inI; omega, hs⟩)
theorem j_sipush (C : Cx g w own cc nL rt) {v : Int} (d : decode cc pc = .ok (.sipush v, 3)) (hv : (decide (-32768 ≤ v) && decide (v < 32768)) = true) (k : Jd g w nL R Q (pc + 3) ls (vI v :: st) n m cs sl) : Jd g w nL R Q pc ls st n m cs sl := by
  intro H locs la hR hS hl ho hs
  exact lv_sipush C.1 C.2.1 d (i16 hv) (k H locs la hR hS hl ho ⟨by simp at hv; show inI v; unfold inI; omega, hs⟩)
theorem j_lconst (C : Cx g w own cc nL rt) {k0 : Fin 2} {v : Int} (d : decode cc pc = .ok (.lconst k0, 1)) (e : Int64.ofNat (k0 : Nat) = Int64.ofInt v) (hv : inLb v = true) (k : Jd g w nL R Q (pc + 1) ls (vL v :: st) n m cs sl) : Jd g w nL R Q pc ls st n m cs sl := by
  intro H locs la hR hS hl ho hs
  exact lv_lconst C.1 C.2.1 d e (k H locs la hR hS hl ho ⟨inL_b hv, hs⟩)
theorem Cx.tbl (C : Cx g w own cc nL rt) {q : Cond} (h : q ∈ tb) : q.before (ga g) (gs g) = true := C.2.2.2.2.1 q h
theorem j_ldc (C : Cx g w own cc nL rt) {i : Nat} {v : Int} {v0 : Int32} (d : decode cc pc = .ok (.ldc i, 2)) (hc : Cond.constant own i v0 ∈ tb) (e : v0 = Int32.ofInt v) (hv : inIb v = true) (k : Jd g w nL R Q (pc + 2) ls (vI v :: st) n m cs sl) : Jd g w nL R Q pc ls st n m cs sl := by
  intro H locs la hR hS hl ho hs
  subst e
  exact lv_ldc C.1 C.2.1 C.2.2.2.1 (C.tbl hc) d (k H locs la hR hS hl ho ⟨inI_b hv, hs⟩)
theorem j_ldcw (C : Cx g w own cc nL rt) {i : Nat} {v : Int} {v0 : Int32} (d : decode cc pc = .ok (.ldc_w i, 3)) (hc : Cond.constant own i v0 ∈ tb) (e : v0 = Int32.ofInt v) (hv : inIb v = true) (k : Jd g w nL R Q (pc + 3) ls (vI v :: st) n m cs sl) : Jd g w nL R Q pc ls st n m cs sl := by
  intro H locs la hR hS hl ho hs
  subst e
  exact lv_ldcw C.1 C.2.1 C.2.2.2.1 (C.tbl hc) d (k H locs la hR hS hl ho ⟨inI_b hv, hs⟩)
theorem j_ldc2 (C : Cx g w own cc nL rt) {i : Nat} {v : Int} {v0 : Int64} (d : decode cc pc = .ok (.ldc2_w i, 3)) (hc : Cond.constantLong own i v0 ∈ tb) (e : v0 = Int64.ofInt v) (hv : inLb v = true) (k : Jd g w nL R Q (pc + 3) ls (vL v :: st) n m cs sl) : Jd g w nL R Q pc ls st n m cs sl := by
  intro H locs la hR hS hl ho hs
  subst e
  exact lv_ldc2 C.1 C.2.1 C.2.2.2.1 (C.tbl hc) d (k H locs la hR hS hl ho ⟨inL_b hv, hs⟩)
theorem j_iload (C : Cx g w own cc nL rt) {i : Nat} {x : Int} (d : decode cc pc = .ok (.iload i, 2)) (h : ls[i]? = some (some (vI x))) (k : Jd g w nL R Q (pc + 2) ls (vI x :: st) n m cs sl) : Jd g w nL R Q pc ls st n m cs sl := by
  intro H locs la hR hS hl ho hs
  exact lv_iload C.1 C.2.1 d (lv_get hl h) (k H locs la hR hS hl ho ⟨okL_at ho h, hs⟩)
theorem j_iload_n (C : Cx g w own cc nL rt) {i : Fin 4} {x : Int} (d : decode cc pc = .ok (.iload_n i, 1)) (h : ls[(i : Nat)]? = some (some (vI x))) (k : Jd g w nL R Q (pc + 1) ls (vI x :: st) n m cs sl) : Jd g w nL R Q pc ls st n m cs sl := by
  intro H locs la hR hS hl ho hs
  exact lv_iload_n C.1 C.2.1 d rfl (lv_get hl h) (k H locs la hR hS hl ho ⟨okL_at ho h, hs⟩)
theorem j_lload (C : Cx g w own cc nL rt) {i : Nat} {x : Int} (d : decode cc pc = .ok (.lload i, 2)) (h : ls[i]? = some (some (vL x))) (k : Jd g w nL R Q (pc + 2) ls (vL x :: st) n m cs sl) : Jd g w nL R Q pc ls st n m cs sl := by
  intro H locs la hR hS hl ho hs
  exact lv_lload C.1 C.2.1 d (lv_get hl h) (k H locs la hR hS hl ho ⟨okL_at ho h, hs⟩)
theorem j_lload_n (C : Cx g w own cc nL rt) {i : Fin 4} {x : Int} (d : decode cc pc = .ok (.lload_n i, 1)) (h : ls[(i : Nat)]? = some (some (vL x))) (k : Jd g w nL R Q (pc + 1) ls (vL x :: st) n m cs sl) : Jd g w nL R Q pc ls st n m cs sl := by
  intro H locs la hR hS hl ho hs
  exact lv_lload_n C.1 C.2.1 d rfl (lv_get hl h) (k H locs la hR hS hl ho ⟨okL_at ho h, hs⟩)
theorem j_aload (C : Cx g w own cc nL rt) {i : Nat} {x : Nat} (d : decode cc pc = .ok (.aload i, 2)) (h : ls[i]? = some (some (vR x))) (k : Jd g w nL R Q (pc + 2) ls (vR x :: st) n m cs sl) : Jd g w nL R Q pc ls st n m cs sl := by
  intro H locs la hR hS hl ho hs
  exact lv_aload C.1 C.2.1 d (lv_get hl h) (k H locs la hR hS hl ho ⟨trivial, hs⟩)
theorem j_aload_n (C : Cx g w own cc nL rt) {i : Fin 4} {x : Nat} (d : decode cc pc = .ok (.aload_n i, 1)) (h : ls[(i : Nat)]? = some (some (vR x))) (k : Jd g w nL R Q (pc + 1) ls (vR x :: st) n m cs sl) : Jd g w nL R Q pc ls st n m cs sl := by
  intro H locs la hR hS hl ho hs
  exact lv_aload_n C.1 C.2.1 d rfl (lv_get hl h) (k H locs la hR hS hl ho ⟨trivial, hs⟩)
theorem j_istore (C : Cx g w own cc nL rt) {i : Nat} {x : Int} {ls' : List (Option V)} (d : decode cc pc = .ok (.istore i, 2)) (hi : i < nL) (e : lst ls i (vI x) = ls') (k : Jd g w nL R Q (pc + 2) ls' st n m cs sl) : Jd g w nL R Q pc ls (vI x :: st) n m cs sl := by
  intro H locs la hR hS hl ho hs
  subst e
  exact lv_istore C.1 C.2.1 d hl hi rfl (fun la' hl' => k H locs la' hR hS (lv_st1 hl hl') (okL_lst ho hs.1) hs.2)
theorem j_istore_n (C : Cx g w own cc nL rt) {i : Fin 4} {x : Int} {ls' : List (Option V)} (d : decode cc pc = .ok (.istore_n i, 1)) (hi : (i : Nat) < nL) (e : lst ls (i : Nat) (vI x) = ls') (k : Jd g w nL R Q (pc + 1) ls' st n m cs sl) : Jd g w nL R Q pc ls (vI x :: st) n m cs sl := by
  intro H locs la hR hS hl ho hs
  subst e
  exact lv_istore_n C.1 C.2.1 d rfl hl hi rfl (fun la' hl' => k H locs la' hR hS (lv_st1 hl hl') (okL_lst ho hs.1) hs.2)
theorem j_astore (C : Cx g w own cc nL rt) {i : Nat} {x : Nat} {ls' : List (Option V)} (d : decode cc pc = .ok (.astore i, 2)) (hi : i < nL) (e : lst ls i (vR x) = ls') (k : Jd g w nL R Q (pc + 2) ls' st n m cs sl) : Jd g w nL R Q pc ls (vR x :: st) n m cs sl := by
  intro H locs la hR hS hl ho hs
  subst e
  exact lv_astore C.1 C.2.1 d hl hi rfl (fun la' hl' => k H locs la' hR hS (lv_st1 hl hl') (okL_lst ho hs.1) hs.2)
theorem j_astore_n (C : Cx g w own cc nL rt) {i : Fin 4} {x : Nat} {ls' : List (Option V)} (d : decode cc pc = .ok (.astore_n i, 1)) (hi : (i : Nat) < nL) (e : lst ls (i : Nat) (vR x) = ls') (k : Jd g w nL R Q (pc + 1) ls' st n m cs sl) : Jd g w nL R Q pc ls (vR x :: st) n m cs sl := by
  intro H locs la hR hS hl ho hs
  subst e
  exact lv_astore_n C.1 C.2.1 d rfl hl hi rfl (fun la' hl' => k H locs la' hR hS (lv_st1 hl hl') (okL_lst ho hs.1) hs.2)
theorem j_lstore (C : Cx g w own cc nL rt) {i : Nat} {x : Int} {ls' : List (Option V)} (d : decode cc pc = .ok (.lstore i, 2)) (hi : i + 1 < nL) (e : lst2 ls i (vL x) = ls') (k : Jd g w nL R Q (pc + 2) ls' st n m cs sl) : Jd g w nL R Q pc ls (vL x :: st) n m cs sl := by
  intro H locs la hR hS hl ho hs
  subst e
  exact lv_lstore C.1 C.2.1 d hl hi rfl (fun la' hl' => k H locs la' hR hS (lv_st2 hl hl') (okL_lst2 ho hs.1) hs.2)
theorem j_lstore_n (C : Cx g w own cc nL rt) {i : Fin 4} {x : Int} {ls' : List (Option V)} (d : decode cc pc = .ok (.lstore_n i, 1)) (hi : (i : Nat) + 1 < nL) (e : lst2 ls (i : Nat) (vL x) = ls') (k : Jd g w nL R Q (pc + 1) ls' st n m cs sl) : Jd g w nL R Q pc ls (vL x :: st) n m cs sl := by
  intro H locs la hR hS hl ho hs
  subst e
  exact lv_lstore_n C.1 C.2.1 d rfl hl hi rfl (fun la' hl' => k H locs la' hR hS (lv_st2 hl hl') (okL_lst2 ho hs.1) hs.2)
theorem j_mask (b : List Bool) {ls' : List (Option V)} (e : msk b ls = ls') (k : Jd g w nL R Q pc ls' st n m cs sl) : Jd g w nL R Q pc ls st n m cs sl := by
  intro H locs la hR hS hl ho hs
  subst e
  exact k H locs la hR hS (lv_mk hl.1 hl.2.1 fun i v h => lv_get hl (msk_at h)) (okL_of fun i v h => okL_at ho (msk_at h)) hs
theorem j_iinc (C : Cx g w own cc nL rt) {i : Nat} {v x : Int} {ls' : List (Option V)} (d : decode cc pc = .ok (.iinc i v, 3)) (h : ls[i]? = some (some (vI x))) (hi : i < nL) (e : lst ls i (vI (wI (x + v))) = ls') (k : Jd g w nL R Q (pc + 3) ls' st n m cs sl) : Jd g w nL R Q pc ls st n m cs sl := by
  intro H locs la hR hS hl ho hs
  subst e
  have hm := lcv_mem (w := w) (i := 0) h
  rw [Nat.zero_add] at hm
  obtain ⟨kk, hk⟩ := List.getElem?_of_mem hm
  exact lv_iinc (k := kk) C.1 C.2.1 d hl hk (ofI_add x v) hi rfl (fun la' hl' => k H locs la' hR hS (lv_st1 (v := vI (wI (x + v))) hl hl') (okL_lst ho (inI_wI _)) hs)
theorem j_iadd (C : Cx g w own cc nL rt) {x y : Int} (d : decode cc pc = .ok (.iadd, 1)) (k : Jd g w nL R Q (pc + 1) ls (vI (wI (x + y)) :: st) n m cs sl) : Jd g w nL R Q pc ls (vI y :: vI x :: st) n m cs sl := by
  intro H locs la hR hS hl ho hs
  refine lv_iadd C.1 C.2.1 d ?_
  rw [ofI_add]
  exact k H locs la hR hS hl ho ⟨inI_wI _, hs.2.2⟩
theorem j_isub (C : Cx g w own cc nL rt) {x y : Int} (d : decode cc pc = .ok (.isub, 1)) (k : Jd g w nL R Q (pc + 1) ls (vI (wI (x - y)) :: st) n m cs sl) : Jd g w nL R Q pc ls (vI y :: vI x :: st) n m cs sl := by
  intro H locs la hR hS hl ho hs
  refine lv_isub C.1 C.2.1 d ?_
  rw [ofI_sub]
  exact k H locs la hR hS hl ho ⟨inI_wI _, hs.2.2⟩
theorem j_imul (C : Cx g w own cc nL rt) {x y : Int} (d : decode cc pc = .ok (.imul, 1)) (k : Jd g w nL R Q (pc + 1) ls (vI (wI (x * y)) :: st) n m cs sl) : Jd g w nL R Q pc ls (vI y :: vI x :: st) n m cs sl := by
  intro H locs la hR hS hl ho hs
  refine lv_imul C.1 C.2.1 d ?_
  rw [ofI_mul hs.2.1 hs.1]
  exact k H locs la hR hS hl ho ⟨inI_wI _, hs.2.2⟩
theorem j_ineg (C : Cx g w own cc nL rt) {x : Int} (d : decode cc pc = .ok (.ineg, 1)) (k : Jd g w nL R Q (pc + 1) ls (vI (wI (-x)) :: st) n m cs sl) : Jd g w nL R Q pc ls (vI x :: st) n m cs sl := by
  intro H locs la hR hS hl ho hs
  refine lv_ineg C.1 C.2.1 d ?_
  rw [ofI_neg]
  exact k H locs la hR hS hl ho ⟨inI_wI _, hs.2⟩
theorem j_ishl (C : Cx g w own cc nL rt) {x y : Int} (d : decode cc pc = .ok (.ishl, 1)) (k : Jd g w nL R Q (pc + 1) ls (vI (ishl x y) :: st) n m cs sl) : Jd g w nL R Q pc ls (vI y :: vI x :: st) n m cs sl := by
  intro H locs la hR hS hl ho hs
  refine lv_ishl C.1 C.2.1 d ?_
  rw [ofI_shl hs.2.1]
  exact k H locs la hR hS hl ho ⟨inI_ishl _ _, hs.2.2⟩
theorem j_ishr (C : Cx g w own cc nL rt) {x y : Int} (d : decode cc pc = .ok (.ishr, 1)) (k : Jd g w nL R Q (pc + 1) ls (vI (ishr x y) :: st) n m cs sl) : Jd g w nL R Q pc ls (vI y :: vI x :: st) n m cs sl := by
  intro H locs la hR hS hl ho hs
  refine lv_ishr C.1 C.2.1 d ?_
  rw [ofI_shr hs.2.1]
  exact k H locs la hR hS hl ho ⟨inI_ishr hs.2.1 _, hs.2.2⟩
theorem j_iand (C : Cx g w own cc nL rt) {x y : Int} (d : decode cc pc = .ok (.iand, 1)) (k : Jd g w nL R Q (pc + 1) ls (vI (iand x y) :: st) n m cs sl) : Jd g w nL R Q pc ls (vI y :: vI x :: st) n m cs sl := by
  intro H locs la hR hS hl ho hs
  refine lv_iand C.1 C.2.1 d ?_
  rw [ofI_and]
  exact k H locs la hR hS hl ho ⟨inI_iand _ _, hs.2.2⟩
theorem j_ior (C : Cx g w own cc nL rt) {x y : Int} (d : decode cc pc = .ok (.ior, 1)) (k : Jd g w nL R Q (pc + 1) ls (vI (ior x y) :: st) n m cs sl) : Jd g w nL R Q pc ls (vI y :: vI x :: st) n m cs sl := by
  intro H locs la hR hS hl ho hs
  refine lv_ior C.1 C.2.1 d ?_
  rw [ofI_or]
  exact k H locs la hR hS hl ho ⟨inI_ior _ _, hs.2.2⟩
theorem ne0I {y : Int} (hy : inI y) (h : y ≠ 0) : ¬ Int32.ofInt y = 0 := fun e => h ((eqIi hy (y := 0) (by unfold inI; omega)).mp e)
theorem ne0L {y : Int} (hy : inL y) (h : y ≠ 0) : ¬ Int64.ofInt y = 0 := fun e => h ((eqLi hy (y := 0) (by unfold inL; omega)).mp e)
theorem j_idiv (C : Cx g w own cc nL rt) {x y : Int} (d : decode cc pc = .ok (.idiv, 1)) (hne : y ≠ 0) (k : Jd g w nL R Q (pc + 1) ls (vI (wI (x.tdiv y)) :: st) n m cs sl) : Jd g w nL R Q pc ls (vI y :: vI x :: st) n m cs sl := by
  intro H locs la hR hS hl ho hs
  refine lv_idiv C.1 C.2.1 d (ne0I hs.1 hne) ?_
  rw [ofI_div hs.2.1 hs.1]
  exact k H locs la hR hS hl ho ⟨inI_wI _, hs.2.2⟩
theorem j_irem (C : Cx g w own cc nL rt) {x y : Int} (d : decode cc pc = .ok (.irem, 1)) (hne : y ≠ 0) (k : Jd g w nL R Q (pc + 1) ls (vI (wI (x.tmod y)) :: st) n m cs sl) : Jd g w nL R Q pc ls (vI y :: vI x :: st) n m cs sl := by
  intro H locs la hR hS hl ho hs
  refine lv_irem C.1 C.2.1 d (ne0I hs.1 hne) ?_
  rw [ofI_rem hs.2.1 hs.1]
  exact k H locs la hR hS hl ho ⟨inI_wI _, hs.2.2⟩
theorem j_ladd (C : Cx g w own cc nL rt) {x y : Int} (d : decode cc pc = .ok (.ladd, 1)) (k : Jd g w nL R Q (pc + 1) ls (vL (wL (x + y)) :: st) n m cs sl) : Jd g w nL R Q pc ls (vL y :: vL x :: st) n m cs sl := by
  intro H locs la hR hS hl ho hs
  refine lv_ladd C.1 C.2.1 d ?_
  rw [ofL_add]
  exact k H locs la hR hS hl ho ⟨inL_wL _, hs.2.2⟩
theorem j_lsub (C : Cx g w own cc nL rt) {x y : Int} (d : decode cc pc = .ok (.lsub, 1)) (k : Jd g w nL R Q (pc + 1) ls (vL (wL (x - y)) :: st) n m cs sl) : Jd g w nL R Q pc ls (vL y :: vL x :: st) n m cs sl := by
  intro H locs la hR hS hl ho hs
  refine lv_lsub C.1 C.2.1 d ?_
  rw [ofL_sub]
  exact k H locs la hR hS hl ho ⟨inL_wL _, hs.2.2⟩
theorem j_lmul (C : Cx g w own cc nL rt) {x y : Int} (d : decode cc pc = .ok (.lmul, 1)) (k : Jd g w nL R Q (pc + 1) ls (vL (wL (x * y)) :: st) n m cs sl) : Jd g w nL R Q pc ls (vL y :: vL x :: st) n m cs sl := by
  intro H locs la hR hS hl ho hs
  refine lv_lmul C.1 C.2.1 d ?_
  rw [ofL_mul hs.2.1 hs.1]
  exact k H locs la hR hS hl ho ⟨inL_wL _, hs.2.2⟩
theorem j_land (C : Cx g w own cc nL rt) {x y : Int} (d : decode cc pc = .ok (.land, 1)) (k : Jd g w nL R Q (pc + 1) ls (vL (land x y) :: st) n m cs sl) : Jd g w nL R Q pc ls (vL y :: vL x :: st) n m cs sl := by
  intro H locs la hR hS hl ho hs
  refine lv_land C.1 C.2.1 d ?_
  rw [ofL_and]
  exact k H locs la hR hS hl ho ⟨inL_land _ _, hs.2.2⟩
theorem j_lor (C : Cx g w own cc nL rt) {x y : Int} (d : decode cc pc = .ok (.lor, 1)) (k : Jd g w nL R Q (pc + 1) ls (vL (lor x y) :: st) n m cs sl) : Jd g w nL R Q pc ls (vL y :: vL x :: st) n m cs sl := by
  intro H locs la hR hS hl ho hs
  refine lv_lor C.1 C.2.1 d ?_
  rw [ofL_or]
  exact k H locs la hR hS hl ho ⟨inL_lor _ _, hs.2.2⟩
theorem j_ldiv (C : Cx g w own cc nL rt) {x y : Int} (d : decode cc pc = .ok (.ldiv, 1)) (hne : y ≠ 0) (k : Jd g w nL R Q (pc + 1) ls (vL (wL (x.tdiv y)) :: st) n m cs sl) : Jd g w nL R Q pc ls (vL y :: vL x :: st) n m cs sl := by
  intro H locs la hR hS hl ho hs
  refine lv_ldiv C.1 C.2.1 d (ne0L hs.1 hne) ?_
  rw [ofL_div hs.2.1 hs.1]
  exact k H locs la hR hS hl ho ⟨inL_wL _, hs.2.2⟩
theorem j_lrem (C : Cx g w own cc nL rt) {x y : Int} (d : decode cc pc = .ok (.lrem, 1)) (hne : y ≠ 0) (k : Jd g w nL R Q (pc + 1) ls (vL (wL (x.tmod y)) :: st) n m cs sl) : Jd g w nL R Q pc ls (vL y :: vL x :: st) n m cs sl := by
  intro H locs la hR hS hl ho hs
  refine lv_lrem C.1 C.2.1 d (ne0L hs.1 hne) ?_
  rw [ofL_rem hs.2.1 hs.1]
  exact k H locs la hR hS hl ho ⟨inL_wL _, hs.2.2⟩
theorem j_lshl (C : Cx g w own cc nL rt) {x y : Int} (d : decode cc pc = .ok (.lshl, 1)) (k : Jd g w nL R Q (pc + 1) ls (vL (lshl x y) :: st) n m cs sl) : Jd g w nL R Q pc ls (vI y :: vL x :: st) n m cs sl := by
  intro H locs la hR hS hl ho hs
  exact lv_lshl C.1 C.2.1 d (ofL_shl hs.2.1 hs.1) (k H locs la hR hS hl ho ⟨inL_lshl _ _, hs.2.2⟩)
theorem j_lshr (C : Cx g w own cc nL rt) {x y : Int} (d : decode cc pc = .ok (.lshr, 1)) (k : Jd g w nL R Q (pc + 1) ls (vL (lshr x y) :: st) n m cs sl) : Jd g w nL R Q pc ls (vI y :: vL x :: st) n m cs sl := by
  intro H locs la hR hS hl ho hs
  exact lv_lshr C.1 C.2.1 d (ofL_shr hs.2.1 hs.1) (k H locs la hR hS hl ho ⟨inL_lshr hs.2.1 _, hs.2.2⟩)
theorem j_i2l (C : Cx g w own cc nL rt) {x : Int} (d : decode cc pc = .ok (.i2l, 1)) (k : Jd g w nL R Q (pc + 1) ls (vL x :: st) n m cs sl) : Jd g w nL R Q pc ls (vI x :: st) n m cs sl := by
  intro H locs la hR hS hl ho hs
  exact lv_i2l C.1 C.2.1 d (ofI_i2l hs.1) (k H locs la hR hS hl ho ⟨inI_inL hs.1, hs.2⟩)
theorem j_l2i (C : Cx g w own cc nL rt) {x : Int} (d : decode cc pc = .ok (.l2i, 1)) (k : Jd g w nL R Q (pc + 1) ls (vI (wI x) :: st) n m cs sl) : Jd g w nL R Q pc ls (vL x :: st) n m cs sl := by
  intro H locs la hR hS hl ho hs
  exact lv_l2i C.1 C.2.1 d (ofL_l2i x) (k H locs la hR hS hl ho ⟨inI_wI _, hs.2⟩)
theorem inI_lcm (x y : Int) : inI (lcm x y) := by unfold lcm inI; split <;> (try split) <;> omega
theorem j_lcmp (C : Cx g w own cc nL rt) {x y : Int} (d : decode cc pc = .ok (.lcmp, 1)) (k : Jd g w nL R Q (pc + 1) ls (vI (lcm x y) :: st) n m cs sl) : Jd g w nL R Q pc ls (vL y :: vL x :: st) n m cs sl := by
  intro H locs la hR hS hl ho hs
  refine W.lcmp C.1 C.2.1 d ?_
  have e : lg_cmp (Int64.ofInt x) (Int64.ofInt y) = Int32.ofInt (lcm x y) := by
    unfold lg_cmp lcm
    by_cases h1 : x < y
    · rw [if_neg (fun e => absurd ((ltL hs.1 hs.2.1).mp e) (by omega)), if_neg (fun e => absurd ((eqLi hs.2.1 hs.1).mp e) (by omega)), if_pos h1]; rfl
    · by_cases h2 : x = y
      · subst h2; simp
      · rw [if_pos ((ltL hs.1 hs.2.1).mpr (by omega)), if_neg h1, if_neg h2]; rfl
  rw [e]
  exact k H locs la hR hS hl ho ⟨inI_lcm _ _, hs.2.2⟩
theorem j_dup (C : Cx g w own cc nL rt) {v : V} (d : decode cc pc = .ok (.dup, 1)) (hv : vcat v = 1) (k : Jd g w nL R Q (pc + 1) ls (v :: v :: st) n m cs sl) : Jd g w nL R Q pc ls (v :: st) n m cs sl := by
  intro H locs la hR hS hl ho hs
  exact lv_dup C.1 C.2.1 d ((cat_cv w v).trans hv) (k H locs la hR hS hl ho ⟨hs.1, hs⟩)
theorem j_pop (C : Cx g w own cc nL rt) {v : V} (d : decode cc pc = .ok (.pop, 1)) (hv : vcat v = 1) (k : Jd g w nL R Q (pc + 1) ls st n m cs sl) : Jd g w nL R Q pc ls (v :: st) n m cs sl := by
  intro H locs la hR hS hl ho hs
  exact lv_pop C.1 C.2.1 d ((cat_cv w v).trans hv) (k H locs la hR hS hl ho hs.2)
theorem j_dup2 (C : Cx g w own cc nL rt) {v u : V} (d : decode cc pc = .ok (.dup2, 1)) (hv : vcat v = 1) (hu : vcat u = 1) (k : Jd g w nL R Q (pc + 1) ls (v :: u :: v :: u :: st) n m cs sl) : Jd g w nL R Q pc ls (v :: u :: st) n m cs sl := by
  intro H locs la hR hS hl ho hs
  exact lv_dup2_11 C.1 C.2.1 d ((cat_cv w v).trans hv) ((cat_cv w u).trans hu) (k H locs la hR hS hl ho ⟨hs.1, hs.2.1, hs⟩)
theorem j_goto (C : Cx g w own cc nL rt) {off : Int} (tgt : Nat) (d : decode cc pc = .ok (.goto off, 3)) (ht : (pc : Int) + off = (tgt : Int)) (k : Jd g w nL R Q tgt ls st n m cs sl) : Jd g w nL R Q pc ls st n m cs sl := by
  intro H locs la hR hS hl ho hs
  exact lv_goto C.1 C.2.1 d ht (k H locs la hR hS hl ho hs)
end JR
section JB
variable {g : Gm} {w : Wd} {own : String} {cc : ByteArray} {nL : Nat} {rt : Option FieldType} {R : Room} {Q : State → Prop} {pc : Nat} {ls : List (Option V)} {st : List V} {n : Nat} {m : Mem} {cs sl : Nat} {α : Type} {X Y : Option α} {out : α}
theorem zgt {x : Int} (hx : inI x) : (0 : Int32) < Int32.ofInt x ↔ 0 < x := ltI (x := 0) (by unfold inI; omega) hx
theorem zeq {x : Int} (hx : inI x) : Int32.ofInt x = 0 ↔ x = 0 := eqIi hx (y := 0) (by unfold inI; omega)
theorem zge {x : Int} (hx : inI x) : (0 : Int32) ≤ Int32.ofInt x ↔ 0 ≤ x := leI (x := 0) (by unfold inI; omega) hx
theorem zle {x : Int} (hx : inI x) : Int32.ofInt x ≤ (0 : Int32) ↔ x ≤ 0 := leI (y := 0) hx (by unfold inI; omega)
theorem j_icmp_lt (C : Cx g w own cc nL rt) {x y off : Int} (tgt : Nat) (d : decode cc pc = .ok (.if_icmp .lt off, 3)) (ht : (pc : Int) + off = (tgt : Int)) (h : (if x < y then X else Y) = some out) (kt : x < y → X = some out → Jd g w nL R Q tgt ls st n m cs sl) (kf : ¬ (x < y) → Y = some out → Jd g w nL R Q (pc + 3) ls st n m cs sl) : Jd g w nL R Q pc ls (vI y :: vI x :: st) n m cs sl := by
  intro H locs la hR hS hl ho hs
  refine lv_icmp_lt (tgt := tgt) C.1 C.2.1 d ht (fun c => ?_) (fun c => ?_)
  · have c := (ltI hs.2.1 hs.1).mp c
    rw [if_pos c] at h
    exact kt c h H locs la hR hS hl ho hs.2.2
  · have c : ¬ (x < y) := fun e => c ((ltI hs.2.1 hs.1).mpr e)
    rw [if_neg c] at h
    exact kf c h H locs la hR hS hl ho hs.2.2
theorem j_icmp_ge (C : Cx g w own cc nL rt) {x y off : Int} (tgt : Nat) (d : decode cc pc = .ok (.if_icmp .ge off, 3)) (ht : (pc : Int) + off = (tgt : Int)) (h : (if y ≤ x then X else Y) = some out) (kt : y ≤ x → X = some out → Jd g w nL R Q tgt ls st n m cs sl) (kf : ¬ (y ≤ x) → Y = some out → Jd g w nL R Q (pc + 3) ls st n m cs sl) : Jd g w nL R Q pc ls (vI y :: vI x :: st) n m cs sl := by
  intro H locs la hR hS hl ho hs
  refine lv_icmp_ge (tgt := tgt) C.1 C.2.1 d ht (fun c => ?_) (fun c => ?_)
  · have c := (leI hs.1 hs.2.1).mp c
    rw [if_pos c] at h
    exact kt c h H locs la hR hS hl ho hs.2.2
  · have c : ¬ (y ≤ x) := fun e => c ((leI hs.1 hs.2.1).mpr e)
    rw [if_neg c] at h
    exact kf c h H locs la hR hS hl ho hs.2.2
theorem j_icmp_gt (C : Cx g w own cc nL rt) {x y off : Int} (tgt : Nat) (d : decode cc pc = .ok (.if_icmp .gt off, 3)) (ht : (pc : Int) + off = (tgt : Int)) (h : (if y < x then X else Y) = some out) (kt : y < x → X = some out → Jd g w nL R Q tgt ls st n m cs sl) (kf : ¬ (y < x) → Y = some out → Jd g w nL R Q (pc + 3) ls st n m cs sl) : Jd g w nL R Q pc ls (vI y :: vI x :: st) n m cs sl := by
  intro H locs la hR hS hl ho hs
  refine lv_icmp_gt (tgt := tgt) C.1 C.2.1 d ht (fun c => ?_) (fun c => ?_)
  · have c := (ltI hs.1 hs.2.1).mp c
    rw [if_pos c] at h
    exact kt c h H locs la hR hS hl ho hs.2.2
  · have c : ¬ (y < x) := fun e => c ((ltI hs.1 hs.2.1).mpr e)
    rw [if_neg c] at h
    exact kf c h H locs la hR hS hl ho hs.2.2
theorem j_icmp_le (C : Cx g w own cc nL rt) {x y off : Int} (tgt : Nat) (d : decode cc pc = .ok (.if_icmp .le off, 3)) (ht : (pc : Int) + off = (tgt : Int)) (h : (if x ≤ y then X else Y) = some out) (kt : x ≤ y → X = some out → Jd g w nL R Q tgt ls st n m cs sl) (kf : ¬ (x ≤ y) → Y = some out → Jd g w nL R Q (pc + 3) ls st n m cs sl) : Jd g w nL R Q pc ls (vI y :: vI x :: st) n m cs sl := by
  intro H locs la hR hS hl ho hs
  refine lv_icmp_le (tgt := tgt) C.1 C.2.1 d ht (fun c => ?_) (fun c => ?_)
  · have c := (leI hs.2.1 hs.1).mp c
    rw [if_pos c] at h
    exact kt c h H locs la hR hS hl ho hs.2.2
  · have c : ¬ (x ≤ y) := fun e => c ((leI hs.2.1 hs.1).mpr e)
    rw [if_neg c] at h
    exact kf c h H locs la hR hS hl ho hs.2.2
theorem j_icmp_eq (C : Cx g w own cc nL rt) {x y off : Int} (tgt : Nat) (d : decode cc pc = .ok (.if_icmp .eq off, 3)) (ht : (pc : Int) + off = (tgt : Int)) (h : (if x = y then X else Y) = some out) (kt : x = y → X = some out → Jd g w nL R Q tgt ls st n m cs sl) (kf : ¬ (x = y) → Y = some out → Jd g w nL R Q (pc + 3) ls st n m cs sl) : Jd g w nL R Q pc ls (vI y :: vI x :: st) n m cs sl := by
  intro H locs la hR hS hl ho hs
  refine lv_icmp_eq (tgt := tgt) C.1 C.2.1 d ht (fun c => ?_) (fun c => ?_)
  · have c := (eqIi hs.2.1 hs.1).mp c
    rw [if_pos c] at h
    exact kt c h H locs la hR hS hl ho hs.2.2
  · have c : ¬ (x = y) := fun e => c ((eqIi hs.2.1 hs.1).mpr e)
    rw [if_neg c] at h
    exact kf c h H locs la hR hS hl ho hs.2.2
theorem j_icmp_ne (C : Cx g w own cc nL rt) {x y off : Int} (tgt : Nat) (d : decode cc pc = .ok (.if_icmp .ne off, 3)) (ht : (pc : Int) + off = (tgt : Int)) (h : (if ¬ x = y then X else Y) = some out) (kt : ¬ x = y → X = some out → Jd g w nL R Q tgt ls st n m cs sl) (kf : ¬ (¬ x = y) → Y = some out → Jd g w nL R Q (pc + 3) ls st n m cs sl) : Jd g w nL R Q pc ls (vI y :: vI x :: st) n m cs sl := by
  intro H locs la hR hS hl ho hs
  refine lv_icmp_ne (tgt := tgt) C.1 C.2.1 d ht (fun c => ?_) (fun c => ?_)
  · have c := (not_congr (eqIi hs.2.1 hs.1)).mp c
    rw [if_pos c] at h
    exact kt c h H locs la hR hS hl ho hs.2.2
  · have c : ¬ (¬ x = y) := fun e => ((not_congr (eqIi hs.2.1 hs.1)).mpr e) c
    rw [if_neg c] at h
    exact kf c h H locs la hR hS hl ho hs.2.2
theorem j_if_lt (C : Cx g w own cc nL rt) {x off : Int} (tgt : Nat) (d : decode cc pc = .ok (.ifCond .lt off, 3)) (ht : (pc : Int) + off = (tgt : Int)) (h : (if x < 0 then X else Y) = some out) (kt : x < 0 → X = some out → Jd g w nL R Q tgt ls st n m cs sl) (kf : ¬ (x < 0) → Y = some out → Jd g w nL R Q (pc + 3) ls st n m cs sl) : Jd g w nL R Q pc ls (vI x :: st) n m cs sl := by
  intro H locs la hR hS hl ho hs
  refine lv_if_lt (tgt := tgt) C.1 C.2.1 d ht (fun c => ?_) (fun c => ?_)
  · have c := (ltI0 hs.1).mp c
    rw [if_pos c] at h
    exact kt c h H locs la hR hS hl ho hs.2
  · have c : ¬ (x < 0) := fun e => c ((ltI0 hs.1).mpr e)
    rw [if_neg c] at h
    exact kf c h H locs la hR hS hl ho hs.2
theorem j_if_ge (C : Cx g w own cc nL rt) {x off : Int} (tgt : Nat) (d : decode cc pc = .ok (.ifCond .ge off, 3)) (ht : (pc : Int) + off = (tgt : Int)) (h : (if 0 ≤ x then X else Y) = some out) (kt : 0 ≤ x → X = some out → Jd g w nL R Q tgt ls st n m cs sl) (kf : ¬ (0 ≤ x) → Y = some out → Jd g w nL R Q (pc + 3) ls st n m cs sl) : Jd g w nL R Q pc ls (vI x :: st) n m cs sl := by
  intro H locs la hR hS hl ho hs
  refine lv_if_ge (tgt := tgt) C.1 C.2.1 d ht (fun c => ?_) (fun c => ?_)
  · have c := (zge hs.1).mp c
    rw [if_pos c] at h
    exact kt c h H locs la hR hS hl ho hs.2
  · have c : ¬ (0 ≤ x) := fun e => c ((zge hs.1).mpr e)
    rw [if_neg c] at h
    exact kf c h H locs la hR hS hl ho hs.2
theorem j_if_gt (C : Cx g w own cc nL rt) {x off : Int} (tgt : Nat) (d : decode cc pc = .ok (.ifCond .gt off, 3)) (ht : (pc : Int) + off = (tgt : Int)) (h : (if 0 < x then X else Y) = some out) (kt : 0 < x → X = some out → Jd g w nL R Q tgt ls st n m cs sl) (kf : ¬ (0 < x) → Y = some out → Jd g w nL R Q (pc + 3) ls st n m cs sl) : Jd g w nL R Q pc ls (vI x :: st) n m cs sl := by
  intro H locs la hR hS hl ho hs
  refine lv_if_gt (tgt := tgt) C.1 C.2.1 d ht (fun c => ?_) (fun c => ?_)
  · have c := (zgt hs.1).mp c
    rw [if_pos c] at h
    exact kt c h H locs la hR hS hl ho hs.2
  · have c : ¬ (0 < x) := fun e => c ((zgt hs.1).mpr e)
    rw [if_neg c] at h
    exact kf c h H locs la hR hS hl ho hs.2
theorem j_if_le (C : Cx g w own cc nL rt) {x off : Int} (tgt : Nat) (d : decode cc pc = .ok (.ifCond .le off, 3)) (ht : (pc : Int) + off = (tgt : Int)) (h : (if x ≤ 0 then X else Y) = some out) (kt : x ≤ 0 → X = some out → Jd g w nL R Q tgt ls st n m cs sl) (kf : ¬ (x ≤ 0) → Y = some out → Jd g w nL R Q (pc + 3) ls st n m cs sl) : Jd g w nL R Q pc ls (vI x :: st) n m cs sl := by
  intro H locs la hR hS hl ho hs
  refine lv_if_le (tgt := tgt) C.1 C.2.1 d ht (fun c => ?_) (fun c => ?_)
  · have c := (zle hs.1).mp c
    rw [if_pos c] at h
    exact kt c h H locs la hR hS hl ho hs.2
  · have c : ¬ (x ≤ 0) := fun e => c ((zle hs.1).mpr e)
    rw [if_neg c] at h
    exact kf c h H locs la hR hS hl ho hs.2
theorem j_if_eq (C : Cx g w own cc nL rt) {x off : Int} (tgt : Nat) (d : decode cc pc = .ok (.ifCond .eq off, 3)) (ht : (pc : Int) + off = (tgt : Int)) (h : (if x = 0 then X else Y) = some out) (kt : x = 0 → X = some out → Jd g w nL R Q tgt ls st n m cs sl) (kf : ¬ (x = 0) → Y = some out → Jd g w nL R Q (pc + 3) ls st n m cs sl) : Jd g w nL R Q pc ls (vI x :: st) n m cs sl := by
  intro H locs la hR hS hl ho hs
  refine lv_if_eq (tgt := tgt) C.1 C.2.1 d ht (fun c => ?_) (fun c => ?_)
  · have c := (zeq hs.1).mp c
    rw [if_pos c] at h
    exact kt c h H locs la hR hS hl ho hs.2
  · have c : ¬ (x = 0) := fun e => c ((zeq hs.1).mpr e)
    rw [if_neg c] at h
    exact kf c h H locs la hR hS hl ho hs.2
theorem j_if_ne (C : Cx g w own cc nL rt) {x off : Int} (tgt : Nat) (d : decode cc pc = .ok (.ifCond .ne off, 3)) (ht : (pc : Int) + off = (tgt : Int)) (h : (if ¬ x = 0 then X else Y) = some out) (kt : ¬ x = 0 → X = some out → Jd g w nL R Q tgt ls st n m cs sl) (kf : ¬ (¬ x = 0) → Y = some out → Jd g w nL R Q (pc + 3) ls st n m cs sl) : Jd g w nL R Q pc ls (vI x :: st) n m cs sl := by
  intro H locs la hR hS hl ho hs
  refine lv_if_ne (tgt := tgt) C.1 C.2.1 d ht (fun c => ?_) (fun c => ?_)
  · have c := (not_congr (zeq hs.1)).mp c
    rw [if_pos c] at h
    exact kt c h H locs la hR hS hl ho hs.2
  · have c : ¬ (¬ x = 0) := fun e => ((not_congr (zeq hs.1)).mpr e) c
    rw [if_neg c] at h
    exact kf c h H locs la hR hS hl ho hs.2
end JB
