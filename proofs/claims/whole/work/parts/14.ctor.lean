section JP
variable {g : Gm} {w : Wd} {own : String} {cc : ByteArray} {nL : Nat} {rt : Option FieldType} {R : Room} {Q : State → Prop} {pc : Nat} {ls : List (Option V)} {st : List V} {n : Nat} {L : MLs} {cs sl : Nat} {α : Type} {out : α}
theorem j_putCI (C : Cx g w own cc nL rt) {ci k idx a N : Nat} {Cn : String} {T : u_T} {ty : Nat → FieldType} {x : Int} {K : MLs → Option α} (d : decode cc pc = .ok (.putfield idx, 3)) (F : CF ci Cn T N ty) (hk : k < N) (hl : Cond.fieldLink own idx (T k).1 (T k).2.1 (T k).2.2.1 ∈ tb) (hf : fk ci k = 0) (ht : narrow (ty k) (.int (Int32.ofInt x)) = .int (Int32.ofInt x) ∧ fits (ty k) (.int (Int32.ofInt x)) = true)
    (hw : (T k).2.2.2 = false ∨ ((T k).2.2.2 = true ∧ (gh g).name = "<init>" ∧ (T k).1 = own)) (h : (putC ci k a x n L).bind K = some out) (kk : ∀ L', K L' = some out → Jd g w nL R Q (pc + 3) ls st n (mo L') cs sl) : Jd g w nL R Q pc ls (vI x :: vR a :: st) n (mo L) cs sl := by
  unfold putC at h
  by_cases q : shK a = ci + 10 ∧ k < shN a ∧ a ≤ n ∧ n ≤ 312
  · rw [if_pos q] at h
    exact j_put0 C d F hk hl hw q.1 q.2.1 q.2.2.1 q.2.2.2 (v := vI x) (by unfold fcv; rw [if_pos hf]; rfl) ht.1 ht.2 (fun o => okC_obj q.1 (fun _ => o) (fun e => by omega)) (kk _ h)
  · rw [if_neg q] at h; cases h
theorem j_putCL (C : Cx g w own cc nL rt) {ci k idx a N : Nat} {Cn : String} {T : u_T} {ty : Nat → FieldType} {x : Int} {K : MLs → Option α} (d : decode cc pc = .ok (.putfield idx, 3)) (F : CF ci Cn T N ty) (hk : k < N) (hl : Cond.fieldLink own idx (T k).1 (T k).2.1 (T k).2.2.1 ∈ tb) (hf : fk ci k = 1) (ht : ty k = .long)
    (hw : (T k).2.2.2 = false ∨ ((T k).2.2.2 = true ∧ (gh g).name = "<init>" ∧ (T k).1 = own)) (h : (putC ci k a x n L).bind K = some out) (kk : ∀ L', K L' = some out → Jd g w nL R Q (pc + 3) ls st n (mo L') cs sl) : Jd g w nL R Q pc ls (vL x :: vR a :: st) n (mo L) cs sl := by
  unfold putC at h
  by_cases q : shK a = ci + 10 ∧ k < shN a ∧ a ≤ n ∧ n ≤ 312
  · rw [if_pos q] at h
    exact j_put0 C d F hk hl hw q.1 q.2.1 q.2.2.1 q.2.2.2 (v := vL x) (by unfold fcv; rw [if_neg (by omega), if_pos hf]; rfl) (by rw [ht]; rfl) (by rw [ht]; rfl) (fun o => okC_obj q.1 (fun e => by omega) (fun _ => o)) (kk _ h)
  · rw [if_neg q] at h; cases h
theorem j_putCR (C : Cx g w own cc nL rt) {ci k idx a N x : Nat} {Cn : String} {T : u_T} {ty : Nat → FieldType} {K : MLs → Option α} (d : decode cc pc = .ok (.putfield idx, 3)) (F : CF ci Cn T N ty) (hk : k < N) (hl : Cond.fieldLink own idx (T k).1 (T k).2.1 (T k).2.2.1 ∈ tb) (hf : fk ci k = 2) (ht : (∃ c, ty k = .object c) ∨ ∃ t, ty k = .array t)
    (hw : (T k).2.2.2 = false ∨ ((T k).2.2.2 = true ∧ (gh g).name = "<init>" ∧ (T k).1 = own)) (h : (putCR ci k a x n L).bind K = some out) (kk : ∀ L', K L' = some out → Jd g w nL R Q (pc + 3) ls st n (mo L') cs sl) : Jd g w nL R Q pc ls (vR x :: vR a :: st) n (mo L) cs sl := by
  unfold putCR at h
  by_cases q : shK a = ci + 10 ∧ k < shN a ∧ a ≤ n ∧ n ≤ 312 ∧ x ≠ 0
  · rw [if_pos q] at h
    refine j_put0 C d F hk hl hw q.1 q.2.1 q.2.2.1 q.2.2.2.1 (v := vR x) (x := (x : Int)) (by unfold fcv rfv; rw [if_neg (by omega), if_neg (by omega), if_neg (by omega)]; rfl) ?_ ?_ (fun o => okC_obj q.1 (fun e => by omega) (fun e => by omega)) (kk _ h)
    · rcases ht with ⟨c, e⟩ | ⟨t, e⟩ <;> rw [e] <;> rfl
    · rcases ht with ⟨c, e⟩ | ⟨t, e⟩ <;> rw [e] <;> rfl
  · rw [if_neg q] at h; cases h
theorem j_getCR (C : Cx g w own cc nL rt) {ci k idx a N : Nat} {Cn : String} {T : u_T} {ty : Nat → FieldType} {K : Nat → Option α} (d : decode cc pc = .ok (.getfield idx, 3)) (F : CF ci Cn T N ty) (hk : k < N) (hl : Cond.fieldLink own idx (T k).1 (T k).2.1 (T k).2.2.1 ∈ tb) (hf : fk ci k = 2)
    (h : (getCR ci k a n L).bind K = some out) (kk : ∀ v, K v = some out → Jd g w nL R Q (pc + 3) ls (vR v :: st) n (mo L) cs sl) : Jd g w nL R Q pc ls (vR a :: st) n (mo L) cs sl := by
  unfold getCR at h
  by_cases q : shK a = ci + 10 ∧ k < shN a ∧ a ≤ n ∧ mo L a k ≠ 0
  · rw [if_pos q] at h
    exact j_get0 C d F hk hl q.1 q.2.1 q.2.2.1 (v := vR (mo L a k).toNat) (by unfold fcv rfv; rw [if_neg (by omega), if_neg (by omega), if_neg q.2.2.2]; rfl) trivial (kk _ h)
  · rw [if_neg q] at h; cases h
theorem j_astCL (C : Cx g w own cc nL rt) {a : Nat} {i x : Int} {K : MLs → Option α} (d : decode cc pc = .ok (.lastore, 1)) (h : (astCL a i x n L).bind K = some out) (kk : ∀ L', K L' = some out → Jd g w nL R Q (pc + 1) ls st n (mo L') cs sl) : Jd g w nL R Q pc ls (vL x :: vI i :: vR a :: st) n (mo L) cs sl := by
  unfold astCL at h
  by_cases q : shK a = 2 ∧ 3 ≤ a ∧ 0 ≤ i ∧ i < shN a ∧ a ≤ n ∧ n ≤ 312
  · rw [if_pos q] at h
    exact j_last0 C d q.2.2.2.2.2 q.2.2.2.2.1 ⟨q.1, q.2.1, q.2.2.1, q.2.2.2.1⟩ (kk _ h)
  · rw [if_neg q] at h; cases h
theorem j_astCI (C : Cx g w own cc nL rt) {a : Nat} {i x : Int} {K : MLs → Option α} (d : decode cc pc = .ok (.iastore, 1)) (h : (astCI a i x n L).bind K = some out) (kk : ∀ L', K L' = some out → Jd g w nL R Q (pc + 1) ls st n (mo L') cs sl) : Jd g w nL R Q pc ls (vI x :: vI i :: vR a :: st) n (mo L) cs sl := by
  unfold astCI at h
  by_cases q : shK a = 1 ∧ 3 ≤ a ∧ 0 ≤ i ∧ i < shN a ∧ a ≤ n ∧ n ≤ 312
  · rw [if_pos q] at h
    exact j_iast0 C d q.2.2.2.2.2 q.2.2.2.2.1 ⟨q.1, q.2.1, q.2.2.1, q.2.2.2.1⟩ (kk _ h)
  · rw [if_neg q] at h; cases h
theorem j_astCR (C : Cx g w own cc nL rt) {a v : Nat} {i : Int} {K : MLs → Option α} (d : decode cc pc = .ok (.aastore, 1)) (h : (astCR a i v 1 n L).bind K = some out) (kk : ∀ L', K L' = some out → Jd g w nL R Q (pc + 1) ls st n (mo L') cs sl) : Jd g w nL R Q pc ls (vR v :: vI i :: vR a :: st) n (mo L) cs sl := by
  intro H locs la hR hS hlv ho hs
  unfold astCR at h
  by_cases q : shK a = 4 ∧ 3 ≤ a ∧ 0 ≤ i ∧ i < shN a ∧ a ≤ n ∧ n ≤ 312 ∧ shK v = 1 + 10 ∧ v ≤ n
  · rw [if_pos q] at h
    obtain ⟨q1, q2, q3, q4, q5, q6, q7, q8⟩ := q
    have hv1 := shK_dyn (a := v) (by omega)
    have hP := hR.one q2 q5 (by omega) (ent_4 (w := w) (mo L a) q1)
    have hPv := hR.one hv1 q8 (by omega) (ent_obj (w := w) (mo L v) q7)
    have hin := in_of hs.2.1 q3 q4
    obtain ⟨r, e1, cell, g1, g2, g3, -⟩ := hPv 0 _ rfl
    have hr : r = (RX1, TX1, 4) := Option.some.inj (e1.symm.trans CF1.1)
    subst hr
    obtain ⟨kA, comp, k1, k2, k3, k4⟩ : va_RA (gs g) (wC w 3) (.object RX1) := (C.k.2 3 _ rfl).2
    obtain ⟨-, hfc, kC, hkC, -⟩ := C.k.1 1 _ CF1.1
    have ec : comp = (wD w).1 1 := Option.some.inj (k3.symm.trans hfc)
    subst ec
    have hk := natI hs.2.1
    refine W.aast C.1 C.2.1 (hP 0 _ rfl) (fun q => by rintro ⟨⟩) (fun z => by cases z) (show (gs g).vm.classes[(arrV (wC w 3) _ _).cls]? = some kA from k1) k2 rfl hkC ⟨fun z => hin (Or.inl z), Nat.not_le.mp fun z => hin (Or.inr (by rw [show (vp_cell (wC w 3) (shN a, Sum.inr (Sum.inr (Sum.inr (Sum.inr fun j => rfv w (mo L a j)))))).slots.size = shN a from arrV_size _ _ _] at z; exact z))⟩ g1 (fun q => by rw [g3]; rintro ⟨⟩) (by rw [g2]; exact hkC) (by rw [g2]; exact va_asg _ _) rfl rfl d fun H1 e z oq => ?_
    refine kk _ h H1 _ la (hR.put C.rs q6 q2 q5 (by omega) z oq ?_ ?_) (hS.put z oq (aw_dyn C.rs q2 (by omega))) hlv ho hs.2.2.2
    · rw [ent_4 _ q1]
      show H1[wA w a]? = some (vp_cell _ _)
      rw [e]
      rw [vp_cell_q, vp_cell_q, arrV_store, hk]
      congr 2
      funext j
      unfold updV up
      by_cases hj : j = i.toNat
      · rw [if_pos hj]
        simp only [true_and, hj, if_true]
        unfold rfv
        rw [if_neg (by omega)]
        rfl
      · rw [if_neg hj]
        simp only [true_and, hj, if_false]
    · unfold okC kdAt
      rw [if_neg (by omega), if_neg (by omega), if_neg (by omega)]
      exact ⟨fun z => absurd z (by decide), fun z => absurd z (by decide)⟩
  · rw [if_neg q] at h; cases h
theorem j_obj (C : Cx g w own cc nL rt) {idx a lv mcR msR : Nat} {m : Mem} (d : decode cc pc = .ok (.invokespecial idx, 3)) (hl : Cond.methodLink own idx Lib.objectInit ∈ tb ∧ Cond.instanceMethod Lib.objectInit ∈ tb ∧ Cond.code Lib.objectInit ⟨#[0xb1]⟩ 1 none ∈ tb) (hR : R = rmL lv mcR msR) (hlv : 0 < lv) (hcat : (st.map vcat).sum ≤ 8) (kk : Jd g w nL R Q (pc + 3) ls st n m cs sl) : Jd g w nL R Q pc ls (vR a :: st) n m cs sl := by
  intro H locs la hRel hS hlv2 ho hs
  subst hR
  have hk := cat_sum (w := w) hcat
  exact W.objInit C.1 C.2.1 C.2.2.2.1 (C.tbl hl.1) (C.tbl hl.2.1) (C.tbl hl.2.2) rfl (hlv2.1.trans C.2.2.1.symm) rfl d (by show 1 ≤ lv; omega) (by show 2 * 0 + _ + 12 ≤ 64 * lv; omega) (kk H locs la hRel hS hlv2 ho hs.2)
def IL (own : String) (idx : Nat) (y : MethodName) (bytes : ByteArray) (maxL : Nat) : Prop :=
  Cond.methodLink own idx y ∈ tb ∧ Cond.instanceMethod y ∈ tb ∧ Cond.initialized y.cls ∈ tb ∧ Cond.code y bytes maxL none ∈ tb ∧ (y.cls ≠ "java/lang/invoke/MethodHandle" ∧ y.cls ≠ "java/lang/invoke/VarHandle" ∧ (parseMethodDescriptor y.desc).map (fun d => d.parameters.length) = some 0) ∧ maxL ≤ 45 ∧ y.name = "<init>"
def INL (own : String) (idx : Nat) (y : MethodName) (host : String) (bytes : ByteArray) (maxL : Nat) : Prop :=
  Cond.methodLinkNest own idx y host ∈ xn ∧ Cond.instanceMethod y ∈ tb ∧ Cond.initialized y.cls ∈ tb ∧ Cond.code y bytes maxL none ∈ tb ∧ (y.cls ≠ "java/lang/invoke/MethodHandle" ∧ y.cls ≠ "java/lang/invoke/VarHandle" ∧ (parseMethodDescriptor y.desc).map (fun d => d.parameters.length) = some 0) ∧ maxL ≤ 45 ∧ y.name = "<init>"
theorem j_callI (C : Cx g w own cc nL rt) {idx maxL lv' mc ms n' a : Nat} {y : MethodName} {bytes : ByteArray} {m m' : Mem}
    (d : decode cc pc = .ok (.invokespecial idx, 3)) (I : IL own idx y bytes maxL) (hct : CT y bytes maxL none lv' mc ms [vR a] n m none n' m')
    (hfr : lv' + 1 ≤ R.frames) (hlo : 64 * lv' + 64 ≤ R.locals) (hc : cs + mc ≤ R.cells) (hsl : sl + ms ≤ R.slots) (hcat : (st.map vcat).sum ≤ 8)
    (kk : Jd g w nL R Q (pc + 3) ls st n' m' (cs + mc) (sl + ms)) : Jd g w nL R Q pc ls (vR a :: st) n m cs sl := by
  intro H locs la hRel hS hl ho hs
  obtain ⟨l1, l2, l4, l5, l6, l7, l8⟩ := I
  have cw : CallB R (gs g) (ga g) own idx y bytes maxL none (Cond.code y bytes maxL none :: tb) (rmL lv' mc ms) mc ms 0 ∧ y.name = "<init>" ∧ (Cond.instanceMethod y).before (ga g) (gs g) = true :=
    ⟨callB_of 0 C.2.2.2.2.1 (gd_cons l5) rfl rfl rfl (C.tbl l4) (C.tbl l1) l6 ⟨hfr, by show 8 + (maxL + 11) + 64 * lv' ≤ _; omega⟩, l8, C.tbl l2⟩
  exact j_run (m' := m') (n' := n') (r := none) (a := ([vR a].map (cv w)).toArray) (va_runI (As := []) (rest := st.map (cv w)) (nL := nL) (Ts := tb) (own := own) ⟨C.1, C.2.1, C.2.2.1, C.2.2.2.1, C.2.2.2.2.1⟩ (hct (gl g) w) cw
    ⟨blindW w _ n m, fun U hU hW => ⟨rfl, C.rs.moved hW hS hU, by rw [hU]; exact hRel, ⟨trivial, trivial⟩⟩⟩ rfl rfl hl.1 rfl (cat_sum hcat) d ⟨hc, hsl⟩) hS hl ho hs.2 kk
theorem j_callIN (C : Cx g w own cc nL rt) {idx maxL lv' mc ms n' a : Nat} {y : MethodName} {host : String} {bytes : ByteArray} {m m' : Mem}
    (d : decode cc pc = .ok (.invokespecial idx, 3)) (I : INL own idx y host bytes maxL) (hct : CT y bytes maxL none lv' mc ms [vR a] n m none n' m')
    (hfr : lv' + 1 ≤ R.frames) (hlo : 64 * lv' + 64 ≤ R.locals) (hc : cs + mc ≤ R.cells) (hsl : sl + ms ≤ R.slots) (hcat : (st.map vcat).sum ≤ 8)
    (kk : Jd g w nL R Q (pc + 3) ls st n' m' (cs + mc) (sl + ms)) : Jd g w nL R Q pc ls (vR a :: st) n m cs sl := by
  intro H locs la hRel hS hl ho hs
  obtain ⟨l1, l2, l4, l5, l6, l7, l8⟩ := I
  have cw := va_cnB (R := R) (s := gs g) (args := ga g) (own := own) (host := host) (index := idx) (y := y) (bytes := bytes) (maxL := maxL) (ret := none) (mc := mc) (ms := ms) (ws := Cond.code y bytes maxL none :: tb) (rm := rmL lv' mc ms) 0 C.2.2.2.2.1 (gd_cons l5) rfl rfl rfl (C.rs.2.2.2.2.2.2.2.1 _ l1) (C.tbl l4) l6 ⟨hfr, by show 8 + (maxL + 11) + 64 * lv' ≤ _; omega⟩
  exact j_run (m' := m') (n' := n') (r := none) (a := ([vR a].map (cv w)).toArray) (va_runIN (As := []) (rest := st.map (cv w)) (nL := nL) (Ts := tb) (own := own) ⟨C.1, C.2.1, C.2.2.1, C.2.2.2.1, C.2.2.2.2.1⟩ (hct (gl g) w) ⟨cw, l8, C.tbl l2⟩
    ⟨blindW w _ n m, fun U hU hW => ⟨rfl, C.rs.moved hW hS hU, by rw [hU]; exact hRel, ⟨trivial, trivial⟩⟩⟩ rfl rfl hl.1 rfl (cat_sum hcat) d ⟨hc, hsl⟩) hS hl ho hs.2 kk
end JP
