/-! constructors: the memory is a list of what was put, the newest first -/
abbrev MLs : Type := List (Nat × Nat × Int)
def mo : MLs → Mem
  | [] => mst
  | (a, k, v) :: t => up (mo t) a k v
def newO (ci N n : Nat) : Option Nat := if shK (nxo n) = ci + 10 ∧ shN (nxo n) = N ∧ nxo n ≤ 312 then some (nxo n) else none
def newA (kd : Nat) (len : Int) (n : Nat) : Option Nat := if shK (nxo n) = kd ∧ 0 ≤ len ∧ (shN (nxo n) : Int) = len ∧ nxo n ≤ 312 then some (nxo n) else none
def putC (ci k a : Nat) (v : Int) (n : Nat) (L : MLs) : Option MLs := if shK a = ci + 10 ∧ k < shN a ∧ a ≤ n ∧ n ≤ 312 then some ((a, k, v) :: L) else none
def putCR (ci k a v n : Nat) (L : MLs) : Option MLs := if shK a = ci + 10 ∧ k < shN a ∧ a ≤ n ∧ n ≤ 312 ∧ v ≠ 0 then some ((a, k, (v : Int)) :: L) else none
def getCR (ci k a n : Nat) (L : MLs) : Option Nat := if shK a = ci + 10 ∧ k < shN a ∧ a ≤ n ∧ mo L a k ≠ 0 then some (mo L a k).toNat else none
def astCR (a : Nat) (i : Int) (v ci n : Nat) (L : MLs) : Option MLs := if shK a = 4 ∧ 3 ≤ a ∧ 0 ≤ i ∧ i < shN a ∧ a ≤ n ∧ n ≤ 312 ∧ shK v = ci + 10 ∧ v ≤ n then some ((a, i.toNat, (v : Int)) :: L) else none
def astCL (a : Nat) (i v : Int) (n : Nat) (L : MLs) : Option MLs := if shK a = 2 ∧ 3 ≤ a ∧ 0 ≤ i ∧ i < shN a ∧ a ≤ n ∧ n ≤ 312 then some ((a, i.toNat, v) :: L) else none
def astCI (a : Nat) (i v : Int) (n : Nat) (L : MLs) : Option MLs := if shK a = 1 ∧ 3 ≤ a ∧ 0 ≤ i ∧ i < shN a ∧ a ≤ n ∧ n ≤ 312 then some ((a, i.toNat, v) :: L) else none
def rowsL (n N : Nat) : Nat → MLs
  | 0 => []
  | i + 1 => (nxo n, i, ((nxo n + 1 + i : Nat) : Int)) :: rowsL n N i
def allRows (n N K : Nat) : Bool := (List.range N).all fun i => shK (nxo n + 1 + i) == 1 && shN (nxo n + 1 + i) == K
def newM (N K n : Nat) (L : MLs) : Option (Nat × Nat × MLs) := if shK (nxo n) = 3 ∧ shN (nxo n) = N ∧ allRows n N K = true ∧ nxo n + N ≤ 312 ∧ N < 100 ∧ K < 20000 then some (nxo n, nxo n + N, rowsL n N N ++ L) else none
theorem ghc_run {a k : Nat} (h : ∀ i, i ≤ k → shK (a + i) ≠ 0) : ∀ i, i ≤ k → ghc (a + i) = ghc a := by
  intro i hi
  have c1 := ghc_c a
  have c2 := ghc_c (a + i)
  have h9 : ¬(a ≤ 9 ∧ 9 ≤ a + i) := fun q => by
    have := sh_g (h (9 - a) (by omega)); omega
  have h39 : ¬(a ≤ 39 ∧ 39 ≤ a + i) := fun q => by
    have := sh_g (h (39 - a) (by omega)); omega
  have h68 : ¬(a ≤ 68 ∧ 68 ≤ a + i) := fun q => by
    have := sh_g (h (68 - a) (by omega)); omega
  omega
theorem RelH.at {w : Wd} {n : Nat} {m : Mem} {H : Heap} {s : State} (h : RelH w n m H) (hS : RelS w s) (hn : nxo n ≤ 312) (hz : shK (nxo n) ≠ 0) : wA w (nxo n) = H.size := by
  have h2 := h.2.1
  have h3 := h.2.2.1
  have c0 := nxo_c n
  have c1 := ghc_c n
  have c2 := ghc_c (nxo n)
  have g0 := sh_g hz
  have e := hS.2.1 (nxo n) (by omega) hn
  omega
/-- k + 1 objects come, the first has the next number -/
theorem RelH.grow {w : Wd} {n k : Nat} {m m2 : Mem} {H H' : Heap} {s : State} (h : RelH w n m H) (hS : RelS w s) (hn : nxo n + k ≤ 312) (hz : H'.size = H.size + k + 1) (ho : ∀ q, q < H.size → H'[q]? = H[q]?) (hm : ∀ a, a ≤ n → m2 a = m a)
    (hsh : ∀ i, i ≤ k → shK (nxo n + i) ≠ 0) (hnew : ∀ i, i ≤ k → va_at (wD w) vwCl (H.size + i, ent w (nxo n + i) (m2 (nxo n + i))) H') (hok : ∀ a j, okC a j (m2 a j)) (h0 : ∀ a, nxo n + k < a → ∀ j, m2 a j = 0) : RelH w (nxo n + k) m2 H' := by
  have hat := h.at hS (by omega) (hsh 0 (by omega))
  obtain ⟨r1, r2, r3, r4, r5, r6, r7⟩ := h
  have hgt := nxo_gt n
  have c0 := nxo_c n
  have hg := ghc_run hsh
  have e0 := hS.2.1 (nxo n) (by omega) (by omega)
  refine ⟨fun a h1 ha hz0 => ?_, by rw [hg k (Nat.le_refl k)]; omega, by omega, hok, h0, fun k => by rw [hm 1 (by omega)]; exact r6 k, fun k => by rw [hm 2 (by omega)]; exact r7 k⟩
  rcases Nat.lt_or_ge n a with q | q
  · have g0 := sh_g hz0
    have q2 : nxo n ≤ a := by omega
    have e := hS.2.1 a (by omega) (by omega)
    have e3 := hg (a - nxo n) (by omega)
    have := hnew (a - nxo n) (by omega)
    rw [show nxo n + (a - nxo n) = a by omega] at this e3
    rw [show H.size + (a - nxo n) = wA w a by omega] at this
    exact this
  · rw [hm a q]
    have h2 := r1 a h1 q hz0
    exact h2.kept (ho _ h2.lt)
theorem rel_ok {w : Wd} {n : Nat} {m : Mem} {H : Heap} (h : RelH w n m H) : ∀ a j, okC a j (m a j) := h.2.2.2.1
section JN
variable {g : Gm} {w : Wd} {own : String} {cc : ByteArray} {nL : Nat} {rt : Option FieldType} {R : Room} {Q : State → Prop} {pc : Nat} {ls : List (Option V)} {st : List V} {n : Nat} {L : MLs} {cs sl : Nat} {α : Type} {out : α}
theorem size_at {m : Mem} {H : Heap} (C : Cx g w own cc nL rt) (h : RelH w n m H) (hn : nxo n ≤ 312) (hz : shK (nxo n) ≠ 0) : wA w (nxo n) = H.size := h.at C.rs hn hz
theorem j_new (C : Cx g w own cc nL rt) {idx ci N : Nat} {Cn : String} {T : u_T} {ty : Nat → FieldType} {m : Mem} {K : Nat → Option α} (d : decode cc pc = .ok (.new idx, 3)) (F : CF ci Cn T N ty) (hcl : Cond.classLink own idx Cn ∈ tb) (hinst : Cond.instantiable Cn N ∈ tb) (hini : Cond.initialized Cn ∈ tb)
    (hdf : ∀ j, j < N → defaultValue (ty j) = fcv ((fun _ => 0, fun _ _ => 0), fun _ => 0, fun _ => 0, 0) (fk ci j) 0) (hc : cs + 1 ≤ R.cells) (hs : sl + N ≤ R.slots) (h : (newO ci N n).bind K = some out)
    (kk : ∀ n1, K n1 = some out → Jd g w nL R Q (pc + 3) ls (vR n1 :: st) n1 m (cs + 1) (sl + N)) : Jd g w nL R Q pc ls st n m cs sl := by
  intro H locs la hR hS hl ho hk
  unfold newO at h
  by_cases q : shK (nxo n) = ci + 10 ∧ shN (nxo n) = N ∧ nxo n ≤ 312
  · rw [if_pos q] at h
    have hsz := size_at C hR q.2.2 (by omega)
    have hgt := nxo_gt n
    have hKn := C.k.1 ci _ F.1
    refine W.newcK C.1 C.2.1 C.2.2.2.1 (C.tbl hcl) (C.tbl hinst) (C.tbl hini) rfl d hc hs hKn.2.1 rfl fun H1 kC hkC e1 z1 o1 => ?_
    show W _ _ _ _ _ _ _ _ _ _ H1 locs (cs + 1) (sl + N) Q (F0 (gm g) (pc + 3) la (.ref H.size :: st.map (cv w)))
    rw [← hsz]
    refine kk _ h H1 locs la (hR.grow (k := 0) C.rs q.2.2 z1 o1 (fun a _ => rfl) (fun i hi => by rw [show i = 0 by omega, Nat.add_zero]; omega) (fun i hi => ?_) (rel_ok hR) (fun a ha j => hR.2.2.2.2.1 a (by omega) j)) ⟨Nat.le_trans hS.1 (by omega), fun x h1 h2 => (o1 x (Nat.lt_of_lt_of_le h1 hS.1)).trans (hS.2.1 x h1 h2), hS.2.2⟩ hl ho ⟨trivial, hk⟩
    have e0 : i = 0 := by omega
    subst e0
    rw [Nat.add_zero, Nat.add_zero, ent_obj _ q.1]
    refine ⟨_, F.1, (u_born ty C.2.2.2.2.1 F.2.1 hKn hkC e1 F.2.2.1).to fun j hj => ?_⟩
    rw [hdf j hj]
    unfold vp_V
    rw [List.getD_eq_getElem?_getD, List.getElem?_map, List.getElem?_range (by omega)]
    show _ = fcv w (fk ci j) (m (nxo n) j)
    rw [hR.2.2.2.2.1 (nxo n) (by omega) j]
    unfold fcv rfv
    by_cases a1 : fk ci j = 0
    · simp [a1]
    · by_cases a2 : fk ci j = 1
      · simp [a2]
      · simp [a1, a2]
  · rw [if_neg q] at h; cases h
theorem j_newarr (C : Cx g w own cc nL rt) {atype : ArrayType} {x : Int} {m : Mem} {K : Nat → Option α} (kd : Nat) (d : decode cc pc = .ok (.newarray atype, 2)) (hkd : (kd = 1 ∧ atype = .int) ∨ (kd = 2 ∧ atype = .long)) (harr : Cond.arrayClass (newarray.typeOf atype) ∈ tb) (N : Nat) (hx : x = (N : Int)) (hc : cs + 1 ≤ R.cells) (hs : sl + N ≤ R.slots) (h : (newA kd x n).bind K = some out)
    (kk : ∀ n1, K n1 = some out → Jd g w nL R Q (pc + 2) ls (vR n1 :: st) n1 m (cs + 1) (sl + N)) : Jd g w nL R Q pc ls (vI x :: st) n m cs sl := by
  intro H locs la hR hS hl ho hk
  unfold newA at h
  by_cases q : shK (nxo n) = kd ∧ 0 ≤ x ∧ (shN (nxo n) : Int) = x ∧ nxo n ≤ 312
  · rw [if_pos q] at h
    obtain ⟨q1, q2, q3, q4⟩ := q
    have hN : shN (nxo n) = N := by omega
    have hlt := shN_lt (nxo n)
    have hsz := size_at C hR q4 (by omega)
    have hgt := nxo_gt n
    refine va_newaK (N := N) C.1 C.2.1 (C.tbl harr) rfl d rfl (fun z => by have := (ltI0 hk.1).mp z; omega) (by rw [natI hk.1]; omega) (by rcases hkd with ⟨-, e⟩ | ⟨-, e⟩ <;> subst e <;> (show N * _ ≤ _; simp [componentBytes, newarray.typeOf]; omega)) hc hs rfl fun H1 cA e1 z1 o1 hAr hNm => ?_
    show W _ _ _ _ _ _ _ _ _ _ H1 locs (cs + 1) (sl + N) Q (F0 (gm g) (pc + 2) la (.ref H.size :: st.map (cv w)))
    rw [← hsz]
    refine kk _ h H1 locs la (hR.grow (k := 0) C.rs q4 z1 o1 (fun a _ => rfl) (fun i hi => by rw [show i = 0 by omega, Nat.add_zero]; omega) (fun i hi => ?_) (rel_ok hR) (fun a ha j => hR.2.2.2.2.1 a (by omega) j)) ⟨Nat.le_trans hS.1 (by omega), fun x h1 h2 => (o1 x (Nat.lt_of_lt_of_le h1 hS.1)).trans (hS.2.1 x h1 h2), hS.2.2⟩ hl ho ⟨trivial, hk.2⟩
    have e0 : i = 0 := by omega
    subst e0
    rcases hkd with ⟨e, e'⟩ | ⟨e, e'⟩
    · subst e; subst e'
      rw [Nat.add_zero, Nat.add_zero, ent_I _ q1]
      have e9 : cA = wC w 0 := Option.some.inj (hNm.symm.trans ((C.k.2 0 _ rfl).2 : (gs g).vm.findClass ("[" ++ FieldType.int.toString) = some (wC w 0)))
      subst e9
      show H1[H.size]? = some (vp_cell _ _)
      rw [e1, vp_cell_i, hN]
      congr 2
      funext j
      rw [hR.2.2.2.2.1 (nxo n) (by omega) j]; rfl
    · subst e; subst e'
      rw [Nat.add_zero, Nat.add_zero, ent_L _ q1]
      have e9 : cA = wC w 1 := Option.some.inj (hNm.symm.trans ((C.k.2 1 _ rfl).2 : (gs g).vm.findClass ("[" ++ FieldType.long.toString) = some (wC w 1)))
      subst e9
      show H1[H.size]? = some (vp_cell _ _)
      rw [e1, vp_cell_l, hN]
      congr 2
      funext j
      rw [hR.2.2.2.2.1 (nxo n) (by omega) j]; rfl
  · rw [if_neg q] at h; cases h
theorem j_anew (C : Cx g w own cc nL rt) {idx : Nat} {x : Int} {m : Mem} {K : Nat → Option α} (d : decode cc pc = .ok (.anewarray idx, 3)) (hcl : Cond.classLink own idx RX1 ∈ tb) (N : Nat) (hx : x = (N : Int)) (hc : cs + 1 ≤ R.cells) (hs : sl + N ≤ R.slots) (h : (newA 4 x n).bind K = some out)
    (kk : ∀ n1, K n1 = some out → Jd g w nL R Q (pc + 3) ls (vR n1 :: st) n1 m (cs + 1) (sl + N)) : Jd g w nL R Q pc ls (vI x :: st) n m cs sl := by
  intro H locs la hR hS hl ho hk
  unfold newA at h
  by_cases q : shK (nxo n) = 4 ∧ 0 ≤ x ∧ (shN (nxo n) : Int) = x ∧ nxo n ≤ 312
  · rw [if_pos q] at h
    obtain ⟨q1, q2, q3, q4⟩ := q
    have hN : shN (nxo n) = N := by omega
    have hlt := shN_lt (nxo n)
    have hsz := size_at C hR q4 (by omega)
    have hgt := nxo_gt n
    have hNn : (Int32.ofInt x).toNatClampNeg = N := by rw [natI hk.1]; omega
    refine W.anew C.1 C.2.1 C.2.2.2.1 (C.tbl hcl) (va_AO.use C.rs.2.2.2.2.2.2.2.2.1) rfl d rfl (fun z => by have := (ltI0 hk.1).mp z; omega) (by rw [hNn]; omega) hc (by rw [hNn]; exact hs) fun cA kA comp f1 f2 f3 f4 => ?_
    rw [hNn]
    generalize hH1 : H.push ({ cls := cA, slots := Array.replicate N .null, vm := .none } : Cell) = H1
    have z1 : H1.size = H.size + 1 := by rw [← hH1, Array.size_push]
    have e1 : H1[H.size]? = some (arrV cA N (fun _ => .null)) := by rw [← hH1, Array.getElem?_push_size, ← arrV_new]
    have o1 : ∀ q : Nat, q < H.size → H1[q]? = H[q]? := fun q hq => by rw [← hH1, Array.getElem?_push, if_neg (Nat.ne_of_lt hq)]
    show W _ _ _ _ _ _ _ _ _ _ H1 locs (cs + 1) (sl + N) Q (F0 (gm g) (pc + 3) la (.ref H.size :: st.map (cv w)))
    rw [← hsz]
    refine kk _ h H1 locs la (hR.grow (k := 0) C.rs q4 z1 o1 (fun a _ => rfl) (fun i hi => by rw [show i = 0 by omega, Nat.add_zero]; omega) (fun i hi => ?_) (rel_ok hR) (fun a ha j => hR.2.2.2.2.1 a (by omega) j)) ⟨Nat.le_trans hS.1 (by omega), fun x h1 h2 => (o1 x (Nat.lt_of_lt_of_le h1 hS.1)).trans (hS.2.1 x h1 h2), hS.2.2⟩ hl ho ⟨trivial, hk.2⟩
    have e0 : i = 0 := by omega
    subst e0
    rw [Nat.add_zero, Nat.add_zero, ent_4 _ q1]
    obtain ⟨kA', comp', g1, g2, g3, g4⟩ : va_RA (gs g) (wC w 3) (.object RX1) := (C.k.2 3 _ rfl).2
    have e9 : cA = wC w 3 := Option.some.inj (f1.symm.trans g4)
    subst e9
    show H1[H.size]? = some (vp_cell _ _)
    rw [e1, vp_cell_q, hN]
    congr 2
    funext j
    rw [hR.2.2.2.2.1 (nxo n) (by omega) j]; rfl
  · rw [if_neg q] at h; cases h
end JN
theorem vr_outer (c : ClassId) (N h0 : Nat) : ∀ i : Nat, Jvm.Free.Multi.outerC c N h0 i = arrV c N (fun j => va_rf (if j < i then some (h0 + 1 + j) else none))
  | 0 => by
    show ({ cls := c, slots := Array.replicate N .null, vm := .none } : Cell) = _
    rw [arrV_new]
    refine congrArg (arrV c N) (funext fun j => ?_)
    simp [va_rf]
  | i + 1 => by
    show (Jvm.Free.Multi.outerC c N h0 i).setSlot i (.ref (h0 + 1 + i)) = _
    rw [vr_outer c N h0 i, arrV_store]
    refine congrArg (arrV c N) (funext fun j => ?_)
    by_cases e : j = i
    · subst e
      simp [updV, va_rf]
    · by_cases h : j < i
      · simp [updV, e, h, Nat.lt_succ_of_lt h]
      · simp [updV, e, h, show ¬ j < i + 1 by omega]
section JM
variable {g : Gm} {w : Wd} {own : String} {cc : ByteArray} {nL : Nat} {rt : Option FieldType} {R : Room} {Q : State → Prop} {pc : Nat} {ls : List (Option V)} {st : List V} {n : Nat} {L : MLs} {cs sl : Nat} {α : Type} {out : α}
theorem rowsL_at (n N : Nat) (t : Mem) (L : MLs) (hL : mo L = t) : ∀ i : Nat, mo (rowsL n N i ++ L) = fun a k => if a = nxo n ∧ k < i then ((nxo n + 1 + k : Nat) : Int) else t a k
  | 0 => by
    funext a k
    rw [if_neg (by omega)]
    show mo L a k = _
    rw [hL]
  | i + 1 => by
    funext a k
    show up (mo (rowsL n N i ++ L)) (nxo n) i _ a k = _
    rw [rowsL_at n N t L hL i]
    unfold up
    by_cases h : a = nxo n ∧ k = i
    · rw [if_pos h, if_pos (by omega), h.2]
    · rw [if_neg h]
      by_cases h2 : a = nxo n ∧ k < i
      · simp only []; rw [if_pos h2, if_pos (by omega)]
      · simp only []; rw [if_neg h2, if_neg (by omega)]
theorem j_mna (C : Cx g w own cc nL rt) {idx : Nat} {x y : Int} {K : Nat × Nat × MLs → Option α} (N Kn : Nat) (d : decode cc pc = .ok (.multianewarray idx 2, 4)) (hcl : Cond.classLink own idx "[[I" ∈ tb) (harr : Cond.arrayClass .int ∈ tb) (hx : x = (N : Int)) (hy : y = (Kn : Int)) (hc : cs + (1 + N) ≤ R.cells) (hs : sl + (N + N * Kn) ≤ R.slots) (h : (newM N Kn n L).bind K = some out)
    (kk : ∀ p : Nat × Nat × MLs, K p = some out → Jd g w nL R Q (pc + 4) ls (vR p.1 :: st) p.2.1 (mo p.2.2) (cs + 1 + N) (sl + N + N * Kn)) : Jd g w nL R Q pc ls (vI y :: vI x :: st) n (mo L) cs sl := by
  intro H locs la hR hS hl ho hk T hT Xs
  unfold newM at h
  by_cases q : shK (nxo n) = 3 ∧ shN (nxo n) = N ∧ allRows n N Kn = true ∧ nxo n + N ≤ 312 ∧ N < 100 ∧ Kn < 20000
  · rw [if_pos q] at h
    obtain ⟨q1, q2, q3, q4, q5, q6⟩ := q
    obtain ⟨iy, ix, hst⟩ := hk
    have hNn : (Int32.ofInt x).toNatClampNeg = N := by rw [natI ix]; omega
    have hKk : (Int32.ofInt y).toNatClampNeg = Kn := by rw [natI iy]; omega
    have hrow : ∀ i, i < N → shK (nxo n + 1 + i) = 1 ∧ shN (nxo n + 1 + i) = Kn := fun i hi => by
      have := List.all_eq_true.mp q3 i (List.mem_range.mpr hi)
      simpa using this
    have hsz := size_at C hR (by omega) (by omega)
    have hgt := nxo_gt n
    obtain ⟨vm₁, cA, comp, -, fA, fC, hO, -, X', step⟩ := Xs.multianewarray2F C.1 C.2.2.2.1 (C.tbl hcl) (over_moved (u := gs g) (E := gs g) (Vm.Alike.refl _) C.rs.2.2.2.2.2.2.2.2.2.1) (C.tbl harr) (g := F0 (gm g) pc la ((vI y :: vI x :: st).map (cv w))) rfl (by rw [C.2.1]; exact d) rfl (fun z => by have := (ltI0 ix).mp z; omega) (fun z => by have := (ltI0 iy).mp z; omega) (by rw [hNn]; omega) (by rw [hKk]; show Kn * 4 ≤ _; omega) (by rw [hKk]; omega) rfl rfl (by rw [hNn]; exact hc) (by rw [hNn, hKk]; exact hs)
    rw [hNn, hKk] at X' step
    have hTh : (T.setVm vm₁).heap = H := hT
    generalize hF : Jvm.Free.Multi.fill (T.setVm vm₁) cA comp N Kn (defaultValue .int) N = F at X' step
    obtain ⟨f1, f2, -, -⟩ := Jvm.Free.Multi.fill_facts (T.setVm vm₁) cA comp N Kn (defaultValue .int) N
    rw [hF, hTh] at f1 f2
    have hold : ∀ x : Nat, x < H.size → F.heap[x]? = H[x]? := fun x hx => by
      have := Jvm.Free.Multi.fill_old (T.setVm vm₁) cA comp N Kn (defaultValue .int) (a := x) (by rw [hTh]; exact hx) N
      rw [hF, hTh] at this
      exact this
    have hrw : ∀ j : Nat, j < N → F.heap[H.size + 1 + j]? = some (Jvm.Free.Multi.innerC comp Kn (defaultValue .int)) := fun j hj => by
      have := Jvm.Free.Multi.fill_inner (T.setVm vm₁) cA comp N Kn (defaultValue .int) N j hj
      rw [hF, hTh] at this
      exact this
    rw [vr_outer] at f2
    have e8 : cA = wC w 2 := Option.some.inj (fA.symm.trans ((C.k.2 2 _ rfl).2 : (gs g).vm.findClass ("[" ++ (FieldType.array .int).toString) = some (wC w 2)))
    have e9 : comp = wC w 0 := Option.some.inj (fC.symm.trans ((C.k.2 0 _ rfl).2 : (gs g).vm.findClass ("[" ++ FieldType.int.toString) = some (wC w 0)))
    subst e8
    subst e9
    have hm2 := rowsL_at n N (mo L) L rfl N
    have hb := hR.2.1
    have h2n := hR.2.2.1
    have hzs : ∀ i, i ≤ N → shK (nxo n + i) ≠ 0 := fun i hi => by
      rcases Nat.eq_zero_or_pos i with e0 | e0
      · subst e0; rw [Nat.add_zero]; omega
      · have := (hrow (i - 1) (by omega)).1
        rw [show nxo n + 1 + (i - 1) = nxo n + i by omega] at this
        omega
    have hrel : RelH w (nxo n + N) (mo (rowsL n N N ++ L)) F.heap := by
      refine hR.grow (k := N) C.rs (by omega) (by rw [f1]; omega) hold (fun a ha => by rw [hm2]; funext j; simp only []; rw [if_neg (by omega)]) hzs (fun i hi => ?_) (fun a j => ?_) (fun a ha j => by rw [hm2]; simp only []; rw [if_neg (by omega)]; exact hR.2.2.2.2.1 a (by omega) j)
      · rcases Nat.eq_zero_or_pos i with e0 | e0
        · subst e0
          rw [Nat.add_zero, Nat.add_zero, ent_3 _ q1]
          show F.heap[H.size]? = some (vp_cell _ _)
          rw [f2, vp_cell_q, q2, hm2]
          congr 2
          funext j
          simp only []
          by_cases hj : j < N
          · rw [if_pos hj, if_pos ⟨trivial, hj⟩]
            unfold rfv
            rw [if_neg (by omega)]
            have e7 := C.rs.2.1 (nxo n + 1 + j) (by omega) (by omega)
            have e6 := C.rs.2.1 (nxo n) (by omega) (by omega)
            have e5 := ghc_run hzs (1 + j) (by omega)
            rw [show nxo n + (1 + j) = nxo n + 1 + j by omega] at e5
            have e4 : wA w (nxo n + 1 + j) = H.size + 1 + j := by omega
            simp only [Int.toNat_natCast]
            rw [e4]
          · rw [if_neg hj, if_neg (fun z => hj z.2), hR.2.2.2.2.1 (nxo n) (by omega) j]; rfl
        · obtain ⟨a1, a2⟩ := hrow (i - 1) (by omega)
          rw [show nxo n + 1 + (i - 1) = nxo n + i by omega] at a1 a2
          rw [ent_I _ a1]
          show F.heap[H.size + i]? = some (vp_cell _ _)
          rw [show H.size + i = H.size + 1 + (i - 1) by omega, hrw (i - 1) (by omega), a2, vp_cell_i, hm2]
          unfold Jvm.Free.Multi.innerC
          rw [arrV_new]
          congr 2
          funext j
          simp only []
          rw [if_neg (by omega), hR.2.2.2.2.1 (nxo n + i) (by omega) j]; rfl
      · rw [hm2]
        simp only []
        by_cases hj : a = nxo n ∧ j < N
        · rw [if_pos hj]
          unfold okC kdAt
          rw [hj.1, if_neg (by omega), if_neg (by omega), if_neg (by omega)]
          exact ⟨fun z => absurd z (by decide), fun z => absurd z (by decide)⟩
        · rw [if_neg hj]; exact rel_ok hR a j
    have key := kk _ h F.heap locs la hrel ⟨Nat.le_trans hS.1 (by omega), fun x h1 h2 => (hold x (Nat.lt_of_lt_of_le h1 hS.1)).trans (hS.2.1 x h1 h2), hS.2.2⟩ hl ho ⟨trivial, hst⟩
    obtain ⟨t, a1, b1⟩ := key F rfl X'
    refine ⟨t, step t ?_, b1⟩
    rw [show T.heap.size = wA w (nxo n) by rw [hsz, hT]]
    exact a1
  · rw [if_neg q] at h; cases h
end JM
