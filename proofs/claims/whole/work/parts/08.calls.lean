/-! contracts, calls, ends -/
def okR : Option V → Prop
  | none => True
  | some v => okV v
def Qw (w : Wd) (n : Nat) (m : Mem) (r : Option V) : Array Value → State → Outcome → State → Prop := fun _ st o t => (o = .returned (r.map (cv w)) ∧ okR r ∧ RelH w n m t.heap) ∧ va_F (aw w) st t
def rmL (lv mc ms : Nat) : Room := { frames := lv, cells := mc, slots := ms, locals := 64 * lv }
def PcW (w : Wd) (args : List V) (n : Nat) (m : Mem) : Array Value → State → Prop := va_Pc (args.map (cv w)) (fun U => RelS w U ∧ RelH w n m U.heap ∧ okS args)
def CT (y : MethodName) (cc : ByteArray) (maxL : Nat) (rt : Option FieldType) (lv mc ms : Nat) (args : List V) (n : Nat) (m : Mem) (r : Option V) (n' : Nat) (m' : Mem) : Prop :=
  ∀ (l : Launch) (w : Wd), Met l y (Cond.code y cc maxL rt :: tb) (rmL lv mc ms) (PcW w args n m) (Qw w n' m' r) mc ms (aw w)
theorem RelS.moved {w : Wd} {s U : State} {H : Heap} {locs : List Loc} (h : RelS w s) (hW : s.WarmedH U.vm) (hS : va_S (aw w) s.heap H locs) (hU : U.heap = H) : RelS w U := by
  obtain ⟨h1, h2, h3, h4, h5, h6, h7, h8, h9, h10, h11⟩ := h
  have hk : ∀ a : Nat, a < s.heap.size → ¬ aw w a → U.heap[a]? = s.heap[a]? := fun a ha hn => by rw [hU]; exact hS.2.1 a ha hn
  refine ⟨va_K.moved hW.alike h1, h2, h3, h4, ?_, ?_, by rw [hU]; exact Nat.le_trans h7 hS.1, fun q hq => (h8 q hq).warmX hq hW, h9.moved hW.alike, over_moved hW.alike h10, h11.moved hW hk⟩
  · exact (h5.moved hW.alike).kept hk
  · exact (h6.moved hW.alike).kept hk
theorem blindW (w : Wd) (args : List V) (n : Nat) (m : Mem) : FrameBlind (PcW w args n m) := by
  intro a U g mk h
  obtain ⟨h1, h2, h3, h4⟩ := h
  obtain ⟨e1, e2, e3, e4, e5, e6, e7, e8, e9, e10, e11⟩ := h2
  refine ⟨h1, ⟨va_K.moved (u := U) (U := U.calling g mk a) (Vm.Alike.refl U.vm) e1, e2, e3, e4, e5.moved (u := U) (U := U.calling g mk a) (Vm.Alike.refl U.vm), e6.moved (u := U) (U := U.calling g mk a) (Vm.Alike.refl U.vm), e7, fun q hq => va_Nw.same (u := U) (U := U.calling g mk a) ?_ rfl (e8 q hq), e9.moved (u := U) (U := U.calling g mk a) (Vm.Alike.refl U.vm), over_moved (u := U) (E := U.calling g mk a) (Vm.Alike.refl U.vm) e10, e11.same (U := U.calling g mk a) rfl rfl⟩, h3, h4⟩
  have hb := (List.mem_filter.mp hq).2
  cases q <;> first | rfl | cases hb
def ent0 : List V → List (Option V)
  | [] => []
  | .inr (.inl x) :: t => some (vL x) :: none :: ent0 t
  | .inl x :: t => some (vI x) :: ent0 t
  | .inr (.inr r) :: t => some (vR r) :: ent0 t
theorem lcv_ent0 (w : Wd) (as : List V) : ∀ i : Nat, lcv w i (ent0 as) = lv_args i (as.map (cv w)) := by
  induction as with
  | nil => intro i; rfl
  | cons v t ih =>
    intro i
    rcases v with x | x | r
    · show _ :: lcv w (i + 1) (ent0 t) = _ :: lv_args _ _
      rw [ih]; rfl
    · show _ :: lcv w (i + 1 + 1) (ent0 t) = _ :: lv_args _ _
      rw [ih]; rfl
    · show _ :: lcv w (i + 1) (ent0 t) = _ :: lv_args _ _
      rw [ih]; rfl
theorem len_ent0 (w : Wd) (as : List V) : (lg_sl (as.map (cv w))).length = (ent0 as).length := by
  induction as with
  | nil => rfl
  | cons v t ih =>
    have e : ∀ u us, lg_sl (u :: us) = (if u.category = 2 then [Slot.val u, .second] else [.val u]) ++ lg_sl us := fun u us => by simp [lg_sl]
    rw [List.map_cons, e, List.length_append, ih]
    rcases v with x | x | r
    · show 1 + _ = _ + 1; omega
    · show 2 + _ = _ + 1 + 1; omega
    · show 1 + _ = _ + 1; omega
def padL (k : Nat) (l : List (Option V)) : List (Option V) := l ++ List.replicate (k - l.length) none
theorem lcv_app (w : Wd) (a : List (Option V)) (k : Nat) : ∀ i : Nat, lcv w i (a ++ List.replicate k none) = lcv w i a := by
  induction a with
  | nil =>
    intro i
    induction k generalizing i with
    | zero => rfl
    | succ k ih => show lcv w (i + 1) (List.replicate k none) = []; exact ih (i + 1)
  | cons v t ih =>
    intro i
    cases v with
    | none => exact ih (i + 1)
    | some u => show _ :: lcv w (i + 1) (t ++ _) = _ :: lcv w (i + 1) t; rw [ih]
theorem okL_app {a : List (Option V)} {k : Nat} (h : okL a) : okL (a ++ List.replicate k none) := by
  induction a with
  | nil =>
    induction k with
    | zero => trivial
    | succ k ih => exact ih
  | cons v t ih =>
    cases v with
    | none => exact ih h
    | some u => exact ⟨h.1, ih h.2⟩
theorem okL_ent0 {as : List V} (h : okS as) : okL (ent0 as) := by
  induction as with
  | nil => trivial
  | cons v t ih =>
    rcases v with x | x | r
    · exact ⟨h.1, ih h.2⟩
    · exact ⟨h.1, ih h.2⟩
    · exact ⟨h.1, ih h.2⟩
theorem Met.ofWF {l : Launch} {y : MethodName} {ws ws' : List Cond} {rm : Room} {Pc : Array Value → State → Prop} {Qc : Array Value → State → Outcome → State → Prop} {mc ms : Nat} {free : Addr → Prop} {cc : ByteArray} {maxL : Nat} {ret : Option FieldType}
    (hy : plainFor y = true) (hw : ws = Cond.code y cc maxL ret :: ws')
    (body : ∀ p e s m args below meth c s₁, BodyLoose p l y (headSpec ws rm) cc maxL ret e s m args below meth c s₁ → c.maxLocals = maxL → Pc args s →
      W p l e (headSpec ws rm).room s m args below meth c s.heap [] 0 0 (MQ below Qc args s mc ms free) (entryFrame m args maxL)) : Met l y ws rm Pc Qc mc ms free := by
  refine MetFree.of_bodySF (code := cc) (maxLocals := maxL) (ret := ret) hy ?_ ?_
  · intro args s m h hn
    obtain ⟨meth, c, h1, h2, h3, h4, h5, h6, -, -⟩ := Cond.code_spec hn (atoms_spec (ws := ws) h _ (by rw [hw]; exact List.mem_cons_self))
    exact ⟨meth, c, h1, h2, h3, h4, h5, h6⟩
  · intro p e s m args below meth c s₁ B hml hP _
    have hh0 : s₁.heap = s.heap := by rw [B.state]; rfl
    obtain ⟨t, a1, o, b1, b2, b3⟩ := body p e s m args below meth c s₁ B hml hP s₁ hh0 (Stand.of_body B)
    exact ⟨t, o, a1, b1, b2, ⟨b3.1, b3.2⟩⟩
/-- a contract out of a walk of the body -/
theorem CT.of {y : MethodName} {own : String} {cc : ByteArray} {maxL : Nat} {rt : Option FieldType} {lv mc ms : Nat} {args : List V} {n : Nat} {m : Mem} {r : Option V} {n' : Nat} {m' : Mem} {ls : List (Option V)} (hy : plainFor y = true) (ho : y.cls = own) (hlen : (ent0 args).length ≤ maxL) (hls : padL maxL (ent0 args) = ls)
    (body : ∀ (g : Gm) (w : Wd), Cx g w own cc maxL rt → (gh g).name = y.name → Jd g w maxL (rmL lv mc ms) (MQ (gb g) (Qw w n' m' r) (ga g) (gs g) mc ms (aw w)) 0 ls [] n m 0 0) : CT y cc maxL rt lv mc ms args n m r n' m' := by
  intro l w
  refine Met.ofWF (cc := cc) (maxL := maxL) (ret := rt) hy rfl ?_
  intro p e s mi as below meth c s₁ B hml hv
  obtain ⟨rfl, hS, hH, hok⟩ := hv
  have hts := atoms_spec (ws := Cond.code y cc maxL rt :: tb) B.pre
  have hown : s.vm.findClass own = some mi.cls := by rw [← ho]; exact findClass_of_methodNamed B.named
  have hnm : meth.name = y.name := (name_of_methodNamed B.named B.method).1
  have C : Cx (p, l, e, s, mi, (args.map (cv w)).toArray, below, meth, c) w own cc maxL rt := ⟨B.exec, B.bytes, hml, hown, fun q hq => hts q (List.mem_cons_of_mem _ hq), B.notSynchronized, B.returns, hS⟩
  have K := body _ w C hnm
  rw [lg_entry_eq]
  have hl := lv_entry (args.map (cv w)) (n := maxL) (by rw [len_ent0]; exact hlen)
  subst hls
  refine K s.heap [] _ hH va_S.rf ?_ (okL_app (okL_ent0 hok)) trivial
  unfold padL
  rw [lcv_app, lcv_ent0]
  exact hl
section JC
variable {g : Gm} {w : Wd} {own : String} {cc : ByteArray} {nL : Nat} {rt : Option FieldType} {R : Room} {Q : State → Prop} {pc : Nat} {ls : List (Option V)} {st : List V} {n : Nat} {m : Mem} {cs sl : Nat} {α : Type} {out : α}
theorem va_F_of {st t : State} {H : Heap} {locs : List Loc} {A : Nat → Prop} (hS : va_S A st.heap H locs) (ht : t.heap = H) : va_F A st t := ⟨by rw [ht]; exact hS.1, fun q h1 h2 => by rw [ht]; exact hS.2.1 q h1 h2⟩
theorem j_iret (C : Cx g w own cc nL rt) {mc ms : Nat} {x : Int} {r : Option V} {n' : Nat} {m' : Mem} (d : decode cc pc = .ok (.ireturn, 1)) (hrt : rt = some .int) (hc : cs ≤ mc) (hs : sl ≤ ms) (hr : r = some (vI x)) (hn : n' = n) (hm : m' = m) :
    Jd g w nL R (MQ (gb g) (Qw w n' m' r) (ga g) (gs g) mc ms (aw w)) pc ls [vI x] n m cs sl := by
  subst hr; subst hn; subst hm
  intro H locs la hR hS hl ho hk
  refine W.widen hc hs ?_
  exact W.iret C.1 C.2.1 (C.2.2.2.2.2.2.1.trans hrt) (fun t ht hW => ⟨⟨rfl, hk.1, by rw [ht]; exact hR⟩, va_F_of hS ht⟩) hS.2.2 d C.2.2.2.2.2.1
theorem j_zret (C : Cx g w own cc nL rt) {mc ms : Nat} {x : Int} {r : Option V} {n' : Nat} {m' : Mem} (d : decode cc pc = .ok (.ireturn, 1)) (hrt : rt = some .boolean) (hc : cs ≤ mc) (hs : sl ≤ ms) (hx : x = 0 ∨ x = 1) (hr : r = some (vI x)) (hn : n' = n) (hm : m' = m) :
    Jd g w nL R (MQ (gb g) (Qw w n' m' r) (ga g) (gs g) mc ms (aw w)) pc ls [vI x] n m cs sl := by
  subst hr; subst hn; subst hm
  intro H locs la hR hS hl ho hk
  refine W.widen hc hs ?_
  exact W.zret (ty := .boolean) C.1 C.2.1 (C.2.2.2.2.2.2.1.trans hrt) (by rcases hx with e | e <;> subst e <;> rfl) (fun t ht hW => ⟨⟨rfl, hk.1, by rw [ht]; exact hR⟩, va_F_of hS ht⟩) hS.2.2 d C.2.2.2.2.2.1
theorem j_lret (C : Cx g w own cc nL rt) {mc ms : Nat} {x : Int} {r : Option V} {n' : Nat} {m' : Mem} (d : decode cc pc = .ok (.lreturn, 1)) (hrt : rt = some .long) (hc : cs ≤ mc) (hs : sl ≤ ms) (hr : r = some (vL x)) (hn : n' = n) (hm : m' = m) :
    Jd g w nL R (MQ (gb g) (Qw w n' m' r) (ga g) (gs g) mc ms (aw w)) pc ls [vL x] n m cs sl := by
  subst hr; subst hn; subst hm
  intro H locs la hR hS hl ho hk
  refine W.widen hc hs ?_
  exact W.lret C.1 C.2.1 (C.2.2.2.2.2.2.1.trans hrt) (fun t ht hW => ⟨⟨rfl, hk.1, by rw [ht]; exact hR⟩, va_F_of hS ht⟩) hS.2.2 d C.2.2.2.2.2.1
theorem j_aret (C : Cx g w own cc nL rt) {mc ms : Nat} {x : Nat} {r : Option V} {n' : Nat} {m' : Mem} {cn : String} (d : decode cc pc = .ok (.areturn, 1)) (hrt : rt = some (.object cn)) (hc : cs ≤ mc) (hs : sl ≤ ms) (hr : r = some (vR x)) (hn : n' = n) (hm : m' = m) :
    Jd g w nL R (MQ (gb g) (Qw w n' m' r) (ga g) (gs g) mc ms (aw w)) pc ls [vR x] n m cs sl := by
  subst hr; subst hn; subst hm
  intro H locs la hR hS hl ho hk
  refine W.widen hc hs ?_
  exact W.aret C.1 C.2.1 (C.2.2.2.2.2.2.1.trans hrt) (Or.inl ⟨_, rfl⟩) (Or.inr ⟨_, rfl⟩) (fun t ht hW => ⟨⟨rfl, hk.1, by rw [ht]; exact hR⟩, va_F_of hS ht⟩) hS.2.2 d C.2.2.2.2.2.1
theorem j_vret (C : Cx g w own cc nL rt) {mc ms : Nat} {r : Option V} {n' : Nat} {m' : Mem} (d : decode cc pc = .ok (.return_, 1)) (hrt : rt = none) (hc : cs ≤ mc) (hs : sl ≤ ms) (hr : r = none) (hn : n' = n) (hm : m' = m) :
    Jd g w nL R (MQ (gb g) (Qw w n' m' r) (ga g) (gs g) mc ms (aw w)) pc ls [] n m cs sl := by
  subst hr; subst hn; subst hm
  intro H locs la hR hS hl ho hk
  refine W.widen hc hs ?_
  exact W.vret C.1 C.2.1 (C.2.2.2.2.2.2.1.trans hrt) (fun t ht hW => ⟨⟨rfl, trivial, by rw [ht]; exact hR⟩, va_F_of hS ht⟩) hS.2.2 d C.2.2.2.2.2.1
/-- behind a call -/
theorem j_run {mc ms : Nat} {H : Heap} {locs : List Loc} {la : Array Slot} {st0 : List Value} {r : Option V} {n' : Nat} {m' : Mem} {a : Array Value} (hr : va_Run (gp g) (gl g) (ge g) R (gs g) (gm g) (ga g) (gb g) (gh g) (gc g) H locs cs sl mc ms (F0 (gm g) pc la st0) (st.map (cv w)) (Qw w n' m' r a) (aw w))
    (hS : va_S (aw w) (gs g).heap H locs) (hl : lv_has la nL (lcv w 0 ls)) (ho : okL ls) (hs : okS st) (kk : Jd g w nL R Q (pc + 3) ls (r.toList ++ st) n' m' (cs + mc) (sl + ms)) : W (gp g) (gl g) (ge g) R (gs g) (gm g) (ga g) (gb g) (gh g) (gc g) H locs cs sl Q (F0 (gm g) pc la st0) := by
  intro T hT X
  obtain ⟨v, st₀, t, T', L, h0, X', hL, e1, e2, ⟨⟨hv, hok, hrel⟩, hz, hk⟩, stp⟩ := hr T hT X
  cases hv
  rw [h0] at hz hk
  have hS' : va_S (aw w) (gs g).heap T'.heap (locs ++ L) := ⟨Nat.le_trans hS.1 (by rw [e1]; exact hz), fun q h1 h2 => by rw [e1, hk q (Nat.lt_of_lt_of_le h1 hS.1) h2]; exact hS.2.1 q h1 h2, fun q hq => by
      rcases List.mem_append.mp hq with h | h
      · exact hS.2.2 q h
      · exact hL q h⟩
  have hrel' : RelH w n' m' T'.heap := by rw [e1]; exact hrel
  cases r with
  | none =>
    obtain ⟨t2, a1, b1⟩ := kk T'.heap (locs ++ L) la hrel' hS' hl ho hs T' rfl X'
    exact ⟨t2, stp t2 a1, b1⟩
  | some u =>
    obtain ⟨t2, a1, b1⟩ := kk T'.heap (locs ++ L) la hrel' hS' hl ho ⟨hok, hs⟩ T' rfl X'
    exact ⟨t2, stp t2 a1, b1⟩
/-- what a call's words and numbers must be -/
def VL (own : String) (idx : Nat) (y : MethodName) (bytes : ByteArray) (maxL : Nat) (ret : Option FieldType) (k : Nat) : Prop :=
  Cond.methodLink own idx y ∈ tb ∧ Cond.instanceMethod y ∈ tb ∧ Cond.selects y.cls y y ∈ tb ∧ Cond.initialized y.cls ∈ tb ∧ Cond.code y bytes maxL ret ∈ tb ∧ (y.cls ≠ "java/lang/invoke/MethodHandle" ∧ y.cls ≠ "java/lang/invoke/VarHandle" ∧ (parseMethodDescriptor y.desc).map (fun d => d.parameters.length) = some k) ∧ maxL ≤ 45
def SL (own : String) (idx : Nat) (y : MethodName) (bytes : ByteArray) (maxL : Nat) (ret : Option FieldType) (k : Nat) : Prop :=
  Cond.methodLink own idx y ∈ tb ∧ Cond.static y ∈ tb ∧ Cond.initialized y.cls ∈ tb ∧ Cond.code y bytes maxL ret ∈ tb ∧ (y.cls ≠ "java/lang/invoke/MethodHandle" ∧ y.cls ≠ "java/lang/invoke/VarHandle" ∧ (parseMethodDescriptor y.desc).map (fun d => d.parameters.length) = some k) ∧ maxL ≤ 45
def SNL (own : String) (idx : Nat) (y : MethodName) (host : String) (bytes : ByteArray) (maxL : Nat) (ret : Option FieldType) (k : Nat) : Prop :=
  Cond.methodLinkNest own idx y host ∈ xn ∧ Cond.static y ∈ tb ∧ Cond.initialized y.cls ∈ tb ∧ Cond.code y bytes maxL ret ∈ tb ∧ (y.cls ≠ "java/lang/invoke/MethodHandle" ∧ y.cls ≠ "java/lang/invoke/VarHandle" ∧ (parseMethodDescriptor y.desc).map (fun d => d.parameters.length) = some k) ∧ maxL ≤ 45
theorem gd_cons {y : MethodName} {bytes : ByteArray} {maxL : Nat} {ret : Option FieldType} (h : Cond.code y bytes maxL ret ∈ tb) : GoodIn tb (Cond.code y bytes maxL ret :: tb) := fun q hq => by
  rcases List.mem_cons.mp hq with e | hq
  · subst e; exact tb_goodIn _ h
  · exact tb_goodIn _ hq
theorem j_callV (C : Cx g w own cc nL rt) {idx k maxL lv lv' mc ms mcR msR n' ci N : Nat} {y : MethodName} {bytes : ByteArray} {ret : Option FieldType} {a : Nat} {As : List V} {r : Option V} {m' : Mem} {Cn : String} {T : u_T} {ty : Nat → FieldType} {st0 : List V}
    (d : decode cc pc = .ok (.invokevirtual idx, 3)) (L : VL own idx y bytes maxL ret k) (F : CF ci Cn T N ty) (hcn : Cn = y.cls) (hK : shK a = ci + 10) (han : a ≤ n) (hct : CT y bytes maxL ret lv' mc ms (vR a :: As) n m r n' m')
    (hR : R = rmL lv mcR msR) (hlv : lv' < lv) (hc : cs + mc ≤ mcR) (hsl : sl + ms ≤ msR) (hk : As.length = k) (hst0 : st0 = As.reverse ++ vR a :: st) (hcat : (st.map vcat).sum ≤ 8)
    (kk : Jd g w nL R Q (pc + 3) ls (r.toList ++ st) n' m' (cs + mc) (sl + ms)) : Jd g w nL R Q pc ls st0 n m cs sl := by
  intro H locs la hRel hS hl ho hs
  subst hst0; subst hR; subst hcn
  obtain ⟨l1, l2, l3, l4, l5, l6, l7⟩ := L
  have hPo := hRel.one (shK_dyn (by omega)) han (by omega) (ent_obj (w := w) (m a) hK)
  have hsAs : ∀ (A B : List V), okS (A ++ B) → okS A ∧ okS B := fun A B h => by
    induction A with
    | nil => exact ⟨trivial, h⟩
    | cons v t ih => exact ⟨⟨h.1, (ih h.2).1⟩, (ih h.2).2⟩
  have hrev : ∀ A : List V, okS A.reverse → okS A := fun A h => by
    have key : ∀ (A : List V), (∀ v ∈ A, okV v) ↔ okS A := fun A => by
      induction A with
      | nil => simp [okS]
      | cons v t ih => simp [okS, ih]
    exact (key A).mp fun v hv => (key A.reverse).mpr h v (List.mem_reverse.mpr hv)
  obtain ⟨hsA, hsB⟩ := hsAs _ _ hs
  have cw : CallW (rmL lv mcR msR) (gs g) (ga g) own y.cls idx y bytes maxL ret (Cond.code y bytes maxL ret :: tb) (rmL lv' mc ms) mc ms k :=
    ⟨callB_of k C.2.2.2.2.1 (gd_cons l5) rfl rfl rfl (C.tbl l4) (C.tbl l1) l6 ⟨by show lv' + 1 ≤ lv; omega, by show 8 + (maxL + 11) + 64 * lv' ≤ 64 * lv; omega⟩, C.tbl l2, C.tbl l3⟩
  refine j_run (m' := m') (n' := n') (r := r) (a := (Value.ref (wA w a) :: As.map (cv w)).toArray) (va_runV (As := As.map (cv w)) (rest := st.map (cv w)) (nL := nL) (Ts := tb) (own := own) ⟨C.1, C.2.1, C.2.2.1, C.2.2.2.1, C.2.2.2.2.1⟩ (hct (gl g) w) cw
    ⟨blindW w _ n m, va_recv (q0 := 0) C.k hPo F.1 rfl, fun U hU hW => ⟨rfl, C.rs.moved hW hS hU, by rw [hU]; exact hRel, ⟨trivial, hrev _ hsA⟩⟩⟩ rfl (by simpa using hk) hl.1 (by simp [cv]) ?_ d ⟨hc, hsl⟩) hS hl ho hsB.2 kk
  show 2 * 0 + _ ≤ 8
  rw [List.map_map]
  have e : (List.map ((fun v => v.category) ∘ cv w) st) = st.map vcat := List.map_congr_left fun v _ => cat_cv w v
  rw [e]; omega
theorem okS_split {A B : List V} (h : okS (A ++ B)) : okS A ∧ okS B := by
  induction A with
  | nil => exact ⟨trivial, h⟩
  | cons v t ih => exact ⟨⟨h.1, (ih h.2).1⟩, (ih h.2).2⟩
theorem okS_rev {A : List V} (h : okS A.reverse) : okS A := by
  have key : ∀ (A : List V), (∀ v ∈ A, okV v) ↔ okS A := fun A => by
    induction A with
    | nil => simp [okS]
    | cons v t ih => simp [okS, ih]
  exact (key A).mp fun v hv => (key A.reverse).mpr h v (List.mem_reverse.mpr hv)
theorem cat_sum {st : List V} (h : (st.map vcat).sum ≤ 8) : 2 * 0 + ((st.map (cv w)).map fun v => v.category).sum ≤ 8 := by
  rw [List.map_map]
  have e : (List.map ((fun v => v.category) ∘ cv w) st) = st.map vcat := List.map_congr_left fun v _ => cat_cv w v
  rw [e]; omega
theorem j_callS (C : Cx g w own cc nL rt) {idx k maxL lv lv' mc ms mcR msR n' : Nat} {y : MethodName} {bytes : ByteArray} {ret : Option FieldType} {As : List V} {r : Option V} {m' : Mem} {st0 : List V}
    (d : decode cc pc = .ok (.invokestatic idx, 3)) (L : SL own idx y bytes maxL ret k) (hct : CT y bytes maxL ret lv' mc ms As n m r n' m')
    (hR : R = rmL lv mcR msR) (hlv : lv' < lv) (hc : cs + mc ≤ mcR) (hsl : sl + ms ≤ msR) (hk : As.length = k) (hst0 : st0 = As.reverse ++ st) (hcat : (st.map vcat).sum ≤ 8)
    (kk : Jd g w nL R Q (pc + 3) ls (r.toList ++ st) n' m' (cs + mc) (sl + ms)) : Jd g w nL R Q pc ls st0 n m cs sl := by
  intro H locs la hRel hS hl ho hs
  subst hst0; subst hR
  obtain ⟨l1, l2, l4, l5, l6, l7⟩ := L
  obtain ⟨hsA, hsB⟩ := okS_split hs
  have cw : CallB (rmL lv mcR msR) (gs g) (ga g) own idx y bytes maxL ret (Cond.code y bytes maxL ret :: tb) (rmL lv' mc ms) mc ms k ∧ (Cond.static y).before (ga g) (gs g) = true :=
    ⟨callB_of k C.2.2.2.2.1 (gd_cons l5) rfl rfl rfl (C.tbl l4) (C.tbl l1) l6 ⟨by show lv' + 1 ≤ lv; omega, by show 8 + (maxL + 11) + 64 * lv' ≤ 64 * lv; omega⟩, C.tbl l2⟩
  exact j_run (m' := m') (n' := n') (r := r) (a := (As.map (cv w)).toArray) (va_runS (As := As.map (cv w)) (rest := st.map (cv w)) (nL := nL) (Ts := tb) (own := own) ⟨C.1, C.2.1, C.2.2.1, C.2.2.2.1, C.2.2.2.2.1⟩ (hct (gl g) w) cw
    ⟨blindW w _ n m, fun U hU hW => ⟨rfl, C.rs.moved hW hS hU, by rw [hU]; exact hRel, okS_rev hsA⟩⟩ rfl (by simpa using hk) hl.1 (by simp) (cat_sum hcat) d ⟨hc, hsl⟩) hS hl ho hsB kk
theorem j_callSN (C : Cx g w own cc nL rt) {idx k maxL lv lv' mc ms mcR msR n' : Nat} {y : MethodName} {host : String} {bytes : ByteArray} {ret : Option FieldType} {As : List V} {r : Option V} {m' : Mem} {st0 : List V}
    (d : decode cc pc = .ok (.invokestatic idx, 3)) (L : SNL own idx y host bytes maxL ret k) (hct : CT y bytes maxL ret lv' mc ms As n m r n' m')
    (hR : R = rmL lv mcR msR) (hlv : lv' < lv) (hc : cs + mc ≤ mcR) (hsl : sl + ms ≤ msR) (hk : As.length = k) (hst0 : st0 = As.reverse ++ st) (hcat : (st.map vcat).sum ≤ 8)
    (kk : Jd g w nL R Q (pc + 3) ls (r.toList ++ st) n' m' (cs + mc) (sl + ms)) : Jd g w nL R Q pc ls st0 n m cs sl := by
  intro H locs la hRel hS hl ho hs
  subst hst0; subst hR
  obtain ⟨l1, l2, l4, l5, l6, l7⟩ := L
  obtain ⟨hsA, hsB⟩ := okS_split hs
  have cw := va_cnB (R := rmL lv mcR msR) (s := gs g) (args := ga g) (own := own) (host := host) (index := idx) (y := y) (bytes := bytes) (maxL := maxL) (ret := ret) (mc := mc) (ms := ms) (ws := Cond.code y bytes maxL ret :: tb) (rm := rmL lv' mc ms) k C.2.2.2.2.1 (gd_cons l5) rfl rfl rfl (C.rs.2.2.2.2.2.2.2.1 _ l1) (C.tbl l4) l6 ⟨by show lv' + 1 ≤ lv; omega, by show 8 + (maxL + 11) + 64 * lv' ≤ 64 * lv; omega⟩
  exact j_run (m' := m') (n' := n') (r := r) (a := (As.map (cv w)).toArray) (va_runSN (As := As.map (cv w)) (rest := st.map (cv w)) (nL := nL) (Ts := tb) (own := own) ⟨C.1, C.2.1, C.2.2.1, C.2.2.2.1, C.2.2.2.2.1⟩ (hct (gl g) w) ⟨cw, C.tbl l2, trivial⟩
    ⟨blindW w _ n m, fun U hU hW => ⟨rfl, C.rs.moved hW hS hU, by rw [hU]; exact hRel, okS_rev hsA⟩⟩ rfl (by simpa using hk) hl.1 (by simp) (cat_sum hcat) d ⟨hc, hsl⟩) hS hl ho hsB kk
theorem j_tsIn (C : Cx g w own cc nL rt) {lo hi dflt off : Int} {offs : Array Int} {len : Nat} {x : Int} (tgt : Nat) (v : Int) (d : decode cc pc = .ok (.tableswitch dflt lo hi offs, len)) (hx : x = v) (hb : (decide (lo ≤ v) && decide (v ≤ hi)) = true) (ho : offs[(v - lo).toNat]? = some off) (ht : (pc : Int) + off = (tgt : Int)) (kk : Jd g w nL R Q tgt ls st n m cs sl) : Jd g w nL R Q pc ls (vI x :: st) n m cs sl := by
  intro H locs la hR hS hl hok hs
  subst hx
  simp at hb
  exact lv_tableIn (tgt := tgt) C.1 C.2.1 d (by rw [toI_of hs.1]; omega) (by rw [toI_of hs.1]; omega) (by rw [toI_of hs.1]; exact ho) ht (kk H locs la hR hS hl hok hs.2)
theorem j_tsOut (C : Cx g w own cc nL rt) {lo hi dflt : Int} {offs : Array Int} {len : Nat} {x : Int} (tgt : Nat) (d : decode cc pc = .ok (.tableswitch dflt lo hi offs, len)) (h : x < lo ∨ hi < x) (ht : (pc : Int) + dflt = (tgt : Int)) (kk : Jd g w nL R Q tgt ls st n m cs sl) : Jd g w nL R Q pc ls (vI x :: st) n m cs sl := by
  intro H locs la hR hS hl hok hs
  exact lv_tableOut (tgt := tgt) C.1 C.2.1 d (by rw [toI_of hs.1]; exact h) ht (kk H locs la hR hS hl hok hs.2)
theorem j_lks (C : Cx g w own cc nL rt) {dflt off : Int} {ps : Array (Int × Int)} {len : Nat} {x : Int} (tgt : Nat) (d : decode cc pc = .ok (.lookupswitch dflt ps, len)) (hp : (ps.toList.zip (ps.toList.drop 1)).all (fun (a, next) => a.1 < next.1) = true) (ho : Op.lookupswitch.offset ps.toList dflt x = off) (ht : (pc : Int) + off = (tgt : Int)) (kk : Jd g w nL R Q tgt ls st n m cs sl) : Jd g w nL R Q pc ls (vI x :: st) n m cs sl := by
  intro H locs la hR hS hl hok hs
  exact lv_lookup (tgt := tgt) C.1 C.2.1 d hp (by rw [toI_of hs.1]; exact ho) ht (kk H locs la hR hS hl hok hs.2)
def ML (own : String) (idx : Nat) (y : MethodName) (bytes : ByteArray) (maxL : Nat) (ret : Option FieldType) : Prop := Cond.methodLink own idx y ∈ tb ∧ Cond.static y ∈ tb ∧ Cond.initialized "java/lang/Math" ∈ tb ∧ Cond.code y bytes maxL ret ∈ tb
theorem j_mmax (C : Cx g w own cc nL rt) {idx lv mcR msR : Nat} {x y : Int} (d : decode cc pc = .ok (.invokestatic idx, 3)) (L : ML own idx Lib.Math.max.name Lib.Math.max.code 2 (some .int)) (hR : R = rmL lv mcR msR) (hlv : 0 < lv) (hc : cs ≤ mcR) (hsl : sl ≤ msR) (hcat : (st.map vcat).sum ≤ 8) (kk : Jd g w nL R Q (pc + 3) ls (vI (max x y) :: st) n m cs sl) : Jd g w nL R Q pc ls (vI y :: vI x :: st) n m cs sl := by
  intro H locs la hRel hS hl ho hs
  subst hR
  have hcat := cat_sum (w := w) hcat
  refine va_mmax C.1 C.2.1 (C.2.2.1.trans hl.1.symm) C.2.2.2.1 (C.tbl L.1) (C.tbl L.2.1) (C.tbl L.2.2.1) (C.tbl L.2.2.2) (by show 1 ≤ lv; omega) (by show _ ≤ 64 * lv; omega) hc hsl d ?_
  have e : (if Int32.ofInt x < Int32.ofInt y then Int32.ofInt y else Int32.ofInt x) = Int32.ofInt (max x y) := by
    by_cases q : x < y
    · rw [if_pos ((ltI hs.2.1 hs.1).mpr q), show max x y = y by omega]
    · rw [if_neg (fun z => q ((ltI hs.2.1 hs.1).mp z)), show max x y = x by omega]
  rw [e]
  exact kk H locs la hRel hS hl ho ⟨by have h1 := hs.1; have h2 := hs.2.1; show inI _; unfold okV inI at *; omega, hs.2.2⟩
theorem j_mmin (C : Cx g w own cc nL rt) {idx lv mcR msR : Nat} {x y : Int} (d : decode cc pc = .ok (.invokestatic idx, 3)) (L : ML own idx Lib.Math.min.name Lib.Math.min.code 2 (some .int)) (hR : R = rmL lv mcR msR) (hlv : 0 < lv) (hc : cs ≤ mcR) (hsl : sl ≤ msR) (hcat : (st.map vcat).sum ≤ 8) (kk : Jd g w nL R Q (pc + 3) ls (vI (min x y) :: st) n m cs sl) : Jd g w nL R Q pc ls (vI y :: vI x :: st) n m cs sl := by
  intro H locs la hRel hS hl ho hs
  subst hR
  have hcat := cat_sum (w := w) hcat
  refine va_mmin C.1 C.2.1 (C.2.2.1.trans hl.1.symm) C.2.2.2.1 (C.tbl L.1) (C.tbl L.2.1) (C.tbl L.2.2.1) (C.tbl L.2.2.2) (by show 1 ≤ lv; omega) (by show _ ≤ 64 * lv; omega) hc hsl d ?_
  have e : (if Int32.ofInt y < Int32.ofInt x then Int32.ofInt y else Int32.ofInt x) = Int32.ofInt (min x y) := by
    by_cases q : y < x
    · rw [if_pos ((ltI hs.1 hs.2.1).mpr q), show min x y = y by omega]
    · rw [if_neg (fun z => q ((ltI hs.1 hs.2.1).mp z)), show min x y = x by omega]
  rw [e]
  exact kk H locs la hRel hS hl ho ⟨by have h1 := hs.1; have h2 := hs.2.1; show inI _; unfold okV inI at *; omega, hs.2.2⟩
theorem j_mabs (C : Cx g w own cc nL rt) {idx lv mcR msR : Nat} {x : Int} (d : decode cc pc = .ok (.invokestatic idx, 3)) (L : ML own idx Lib.Math.abs.name Lib.Math.abs.code 1 (some .int)) (hR : R = rmL lv mcR msR) (hlv : 0 < lv) (hc : cs ≤ mcR) (hsl : sl ≤ msR) (hcat : (st.map vcat).sum ≤ 8) (kk : Jd g w nL R Q (pc + 3) ls (vI (wI (x.natAbs : Int)) :: st) n m cs sl) : Jd g w nL R Q pc ls (vI x :: st) n m cs sl := by
  intro H locs la hRel hS hl ho hs
  subst hR
  have hcat := cat_sum (w := w) hcat
  refine va_mabs C.1 C.2.1 (C.2.2.1.trans hl.1.symm) C.2.2.2.1 (C.tbl L.1) (C.tbl L.2.1) (C.tbl L.2.2.1) (C.tbl L.2.2.2) (by show 1 ≤ lv; omega) (by show _ ≤ 64 * lv; omega) hc hsl d ?_
  have e : (if 0 ≤ Int32.ofInt x then Int32.ofInt x else 0 - Int32.ofInt x) = Int32.ofInt (wI (x.natAbs : Int)) := by
    by_cases q : 0 ≤ x
    · rw [if_pos ((zge hs.1).mpr q), show (x.natAbs : Int) = x by omega, ofI_w]
    · rw [if_neg (fun z => q ((zge hs.1).mp z)), show (x.natAbs : Int) = 0 - x by omega]
      exact ofI_sub 0 x
  rw [e]
  exact kk H locs la hRel hS hl ho ⟨inI_wI _, hs.2⟩
theorem j_lmax (C : Cx g w own cc nL rt) {idx lv mcR msR : Nat} {x y : Int} (d : decode cc pc = .ok (.invokestatic idx, 3)) (L : ML own idx Lib.MathLoose.max_long.x Lib.MathLoose.max_long.code 4 (some .long)) (hR : R = rmL lv mcR msR) (hlv : 0 < lv) (hc : cs ≤ mcR) (hsl : sl ≤ msR) (hcat : (st.map vcat).sum ≤ 8) (kk : Jd g w nL R Q (pc + 3) ls (vL (max x y) :: st) n m cs sl) : Jd g w nL R Q pc ls (vL y :: vL x :: st) n m cs sl := by
  intro H locs la hRel hS hl ho hs
  subst hR
  have hcat := cat_sum (w := w) hcat
  refine va_mmax_long C.1 C.2.1 (C.2.2.1.trans hl.1.symm) C.2.2.2.1 (C.tbl L.1) (C.tbl L.2.1) (C.tbl L.2.2.1) (C.tbl L.2.2.2) (by show 1 ≤ lv; omega) (by show _ ≤ 64 * lv; omega) hc hsl d ?_
  have e : (if Int64.ofInt y < Int64.ofInt x then Int64.ofInt x else Int64.ofInt y) = Int64.ofInt (max x y) := by
    by_cases q : y < x
    · rw [if_pos ((ltL hs.1 hs.2.1).mpr q), show max x y = x by omega]
    · rw [if_neg (fun z => q ((ltL hs.1 hs.2.1).mp z)), show max x y = y by omega]
  rw [e]
  exact kk H locs la hRel hS hl ho ⟨by have h1 := hs.1; have h2 := hs.2.1; show inL _; unfold okV inL at *; omega, hs.2.2⟩
theorem j_lmin (C : Cx g w own cc nL rt) {idx lv mcR msR : Nat} {x y : Int} (d : decode cc pc = .ok (.invokestatic idx, 3)) (L : ML own idx Lib.MathLoose.min_long.x Lib.MathLoose.min_long.code 4 (some .long)) (hR : R = rmL lv mcR msR) (hlv : 0 < lv) (hc : cs ≤ mcR) (hsl : sl ≤ msR) (hcat : (st.map vcat).sum ≤ 8) (kk : Jd g w nL R Q (pc + 3) ls (vL (min x y) :: st) n m cs sl) : Jd g w nL R Q pc ls (vL y :: vL x :: st) n m cs sl := by
  intro H locs la hRel hS hl ho hs
  subst hR
  have hcat := cat_sum (w := w) hcat
  refine va_mmin_long C.1 C.2.1 (C.2.2.1.trans hl.1.symm) C.2.2.2.1 (C.tbl L.1) (C.tbl L.2.1) (C.tbl L.2.2.1) (C.tbl L.2.2.2) (by show 1 ≤ lv; omega) (by show _ ≤ 64 * lv; omega) hc hsl d ?_
  have e : (if Int64.ofInt y < Int64.ofInt x then Int64.ofInt y else Int64.ofInt x) = Int64.ofInt (min x y) := by
    by_cases q : y < x
    · rw [if_pos ((ltL hs.1 hs.2.1).mpr q), show min x y = y by omega]
    · rw [if_neg (fun z => q ((ltL hs.1 hs.2.1).mp z)), show min x y = x by omega]
  rw [e]
  exact kk H locs la hRel hS hl ho ⟨by have h1 := hs.1; have h2 := hs.2.1; show inL _; unfold okV inL at *; omega, hs.2.2⟩
end JC
