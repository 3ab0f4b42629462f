/-! fields and arrays -/
def getI (ci k a : Nat) (m : Mem) : Option Int := if shK a = ci + 10 ∧ k < shN a then some (m a k) else none
def getR (ci k a : Nat) (m : Mem) : Option Nat := if shK a = ci + 10 ∧ k < shN a ∧ m a k ≠ 0 then some (m a k).toNat else none
def putI (ci k a : Nat) (v : Int) (m : Mem) : Option Mem := if shK a = ci + 10 ∧ k < shN a then some (up m a k v) else none
def putZ (ci k a : Nat) (v : Int) (m : Mem) : Option Mem := if shK a = ci + 10 ∧ k < shN a ∧ (v = 0 ∨ v = 1) then some (up m a k v) else none
def putR (ci k a : Nat) (v : Nat) (m : Mem) : Option Mem := if shK a = ci + 10 ∧ k < shN a ∧ v ≠ 0 then some (up m a k v) else none
def aldI (a : Nat) (i : Int) (m : Mem) : Option Int := if shK a = 1 ∧ 0 ≤ i ∧ i < shN a then some (m a i.toNat) else none
def aldL (a : Nat) (i : Int) (m : Mem) : Option Int := if shK a = 2 ∧ 0 ≤ i ∧ i < shN a then some (m a i.toNat) else none
def aldR (a : Nat) (i : Int) (m : Mem) : Option Nat := if (shK a = 3 ∨ shK a = 4) ∧ 0 ≤ i ∧ i < shN a ∧ m a i.toNat ≠ 0 then some (m a i.toNat).toNat else none
def astI (a : Nat) (i v : Int) (m : Mem) : Option Mem := if shK a = 1 ∧ 3 ≤ a ∧ 0 ≤ i ∧ i < shN a then some (up m a i.toNat v) else none
def astL (a : Nat) (i v : Int) (m : Mem) : Option Mem := if shK a = 2 ∧ 3 ≤ a ∧ 0 ≤ i ∧ i < shN a then some (up m a i.toNat v) else none
def alen (a : Nat) : Option Int := if 1 ≤ shK a ∧ shK a ≤ 4 then some (shN a) else none
theorem shK_le {a : Nat} (h : shK a ≠ 0) : a ≤ 312 := by
  rcases Nat.lt_or_ge 312 a with q | q
  · exfalso; apply h
    unfold shK
    rw [List.getD_eq_getElem?_getD, List.getElem?_eq_none (by have : shL.length = 313 := by decide +kernel
                                                              omega)]
    rfl
  · exact q
theorem shK_pos {a : Nat} (h : shK a ≠ 0) : 1 ≤ a := by
  rcases Nat.eq_zero_or_pos a with q | q
  · subst q; exact absurd rfl h
  · exact q
theorem shK_dyn {a : Nat} (h : 2 ≤ shK a) : 3 ≤ a := by
  rcases Nat.lt_or_ge a 3 with q | q
  · rcases (show a = 0 ∨ a = 1 ∨ a = 2 by omega) with e | e | e <;> subst e <;> exact absurd h (by decide)
  · exact q
theorem shN_small : ∀ a : Nat, a < 313 → shN a < 20000 := by decide +kernel
theorem shN_lt (a : Nat) : shN a < 20000 := by
  rcases Nat.lt_or_ge a 313 with q | q
  · exact shN_small a q
  · unfold shN
    rw [List.getD_eq_getElem?_getD, List.getElem?_eq_none (by have : shL.length = 313 := by decide +kernel
                                                              omega)]
    decide
def CF (ci : Nat) (C : String) (T : u_T) (N : Nat) (ty : Nat → FieldType) : Prop :=
  vwCl[ci]? = some (C, T, N) ∧ (∀ q ∈ u_ws C T N, q ∈ tb) ∧ (∀ k, k < N → parseFieldDescriptor (T k).2.2.1 = some (ty k)) ∧ (∀ a, a < N → ∀ b, b < N → a ≠ b → (T a).2.1 ≠ (T b).2.1)
theorem ent_obj {w : Wd} {a ci : Nat} (f : Nat → Int) (h : shK a = ci + 10) : ent w a f = .inr (ci, (List.range (shN a)).map (fun k => fcv w (fk ci k) (f k))) := by
  unfold ent
  rw [if_neg (by omega), if_neg (by omega), if_neg (by omega), if_neg (by omega), h, Nat.add_sub_cancel]
theorem ent_I {w : Wd} {a : Nat} (f : Nat → Int) (h : shK a = 1) : ent w a f = .inl (wC w 0, shN a, .inl (fun j => Int32.ofInt (f j))) := by
  unfold ent; rw [if_pos h]
theorem ent_L {w : Wd} {a : Nat} (f : Nat → Int) (h : shK a = 2) : ent w a f = .inl (wC w 1, shN a, .inr (.inl (fun j => Int64.ofInt (f j)))) := by
  unfold ent; rw [if_neg (by omega), if_pos h]
theorem ent_3 {w : Wd} {a : Nat} (f : Nat → Int) (h : shK a = 3) : ent w a f = .inl (wC w 2, shN a, .inr (.inr (.inr (.inr (fun j => rfv w (f j)))))) := by
  unfold ent; rw [if_neg (by omega), if_neg (by omega), if_pos h]
theorem ent_4 {w : Wd} {a : Nat} (f : Nat → Int) (h : shK a = 4) : ent w a f = .inl (wC w 3, shN a, .inr (.inr (.inr (.inr (fun j => rfv w (f j)))))) := by
  unfold ent; rw [if_neg (by omega), if_neg (by omega), if_neg (by omega), if_pos h]
theorem RelH.one {w : Wd} {n : Nat} {m : Mem} {H : Heap} (h : RelH w n m H) {a : Nat} (h1 : 3 ≤ a) (hn : a ≤ n) (hz : shK a ≠ 0) {e : va_E} (he : ent w a (m a) = e) : va_P (wD w) vwCl [(wA w a, e)] H := by
  intro k q hq
  have hk : k = 0 := by have := (List.getElem?_eq_some_iff.mp hq).1; simp at this; omega
  subst hk
  cases hq
  rw [← he]
  exact h.1 a h1 hn hz
theorem wA_ne {w : Wd} {s : State} (hS : RelS w s) {a b : Nat} (a3 : 3 ≤ a) (a4 : a ≤ 312) (az : shK a ≠ 0) (b3 : 3 ≤ b) (b4 : b ≤ 312) (bz : shK b ≠ 0) (h : a ≠ b) : wA w a ≠ wA w b := by
  have e1 := hS.2.1 a (by omega) a4
  have e2 := hS.2.1 b (by omega) b4
  have g1 := sh_g az
  have g2 := sh_g bz
  have c1 := ghc_c a
  have c2 := ghc_c b
  omega
/-- a cell of ours changes -/
theorem RelH.put {w : Wd} {n : Nat} {m : Mem} {H H' : Heap} {s : State} (h : RelH w n m H) (hS : RelS w s) (hn12 : n ≤ 312) {a k : Nat} {v : Int} (h3 : 3 ≤ a) (hn : a ≤ n) (hz0 : shK a ≠ 0) (hz : H'.size = H.size) (ho : ∀ q, q ≠ wA w a → H'[q]? = H[q]?)
    (hat : va_at (wD w) vwCl (wA w a, ent w a (up m a k v a)) H') (hok : okC a k v) : RelH w n (up m a k v) H' := by
  obtain ⟨r1, r2, r3, r4, r5, r6, r7⟩ := h
  refine ⟨fun b h1 hb hb0 => ?_, by rw [hz]; exact r2, r3, fun b j => ?_, fun b hb j => ?_, fun j => ?_, fun j => ?_⟩
  · by_cases e : b = a
    · subst e; exact hat
    · have e2 : up m a k v b = m b := by funext j; unfold up; rw [if_neg (fun q => e q.1)]
      rw [e2]
      exact (r1 b h1 hb hb0).kept (ho _ (wA_ne hS h1 (by omega) hb0 h3 (by omega) hz0 e))
  · unfold up
    split
    · rename_i q; rw [q.1, q.2]; exact hok
    · exact r4 b j
  · unfold up
    rw [if_neg (fun q => by omega)]
    exact r5 b hb j
  · unfold up
    rw [if_neg (fun q => by omega)]
    exact r6 j
  · unfold up
    rw [if_neg (fun q => by omega)]
    exact r7 j
theorem va_S.put2 {A : Nat → Prop} {H0 H H1 : Heap} {locs : List Loc} {a k : Nat} (h : va_S A H0 H locs) (z : H1.size = H.size) (oq : ∀ q : Nat, q ≠ a → H1[q]? = H[q]?) (ha : A a) : va_S A H0 H1 (locs ++ [⟨a, k⟩]) := h.put z oq ha
section JH
variable {g : Gm} {w : Wd} {own : String} {cc : ByteArray} {nL : Nat} {rt : Option FieldType} {R : Room} {Q : State → Prop} {pc : Nat} {ls : List (Option V)} {st : List V} {n : Nat} {m : Mem} {cs sl : Nat} {α : Type} {out : α}
theorem Cx.rs (C : Cx g w own cc nL rt) : RelS w (gs g) := C.2.2.2.2.2.2.2
theorem Cx.str (C : Cx g w own cc nL rt) : StrW w (gs g) := C.rs.2.2.2.2.2.2.2.2.2.2
theorem Cx.k (C : Cx g w own cc nL rt) : va_K (wD w) vwCl (tysW w) (gs g) := C.rs.1
theorem aw_dyn {s : State} (hS : RelS w s) {a : Nat} (h3 : 3 ≤ a) (h : a ≤ 312) : aw w (wA w a) := by
  have := hS.2.1 a (by omega) h
  have := ghc_c a
  unfold aw; omega
theorem j_get0 (C : Cx g w own cc nL rt) {ci k idx a N : Nat} {Cn : String} {T : u_T} {ty : Nat → FieldType} {v : V} (d : decode cc pc = .ok (.getfield idx, 3)) (F : CF ci Cn T N ty) (hk : k < N) (hl : Cond.fieldLink own idx (T k).1 (T k).2.1 (T k).2.2.1 ∈ tb)
    (hK : shK a = ci + 10) (hkn : k < shN a) (hn : a ≤ n) (hv : fcv w (fk ci k) (m a k) = cv w v) (hok : okV v) (kk : Jd g w nL R Q (pc + 3) ls (v :: st) n m cs sl) : Jd g w nL R Q pc ls (vR a :: st) n m cs sl := by
  intro H locs la hR hS hlv ho hs
  have hP := hR.one (shK_dyn (by omega)) hn (by omega) (ent_obj (w := w) (m a) hK)
  refine va_get (own := own) (ref := (T k).1) (C := Cn) (T := T) (N := N) (ci := ci) C.1 C.2.1 C.2.2.2.2.1 F.2.1 C.2.2.2.1 C.k hP 0 rfl F.1 k hk (C.tbl hl) (fun x h => h) (v := cv w v) ?_ d (kk H locs la hR hS hlv ho ⟨hok, hs.2⟩)
  rw [List.getElem?_map, List.getElem?_range hkn, ← hv]; rfl
theorem j_getI (C : Cx g w own cc nL rt) {ci k idx a N : Nat} {Cn : String} {T : u_T} {ty : Nat → FieldType} {K : Int → Option α} (d : decode cc pc = .ok (.getfield idx, 3)) (F : CF ci Cn T N ty) (hk : k < N) (hl : Cond.fieldLink own idx (T k).1 (T k).2.1 (T k).2.2.1 ∈ tb) (hf : fk ci k = 0) (hn : n = 312)
    (h : (getI ci k a m).bind K = some out) (kk : ∀ v, K v = some out → Jd g w nL R Q (pc + 3) ls (vI v :: st) n m cs sl) : Jd g w nL R Q pc ls (vR a :: st) n m cs sl := by
  intro H locs la hR hS hlv ho hs
  unfold getI at h
  by_cases q : shK a = ci + 10 ∧ k < shN a
  · rw [if_pos q] at h
    have hok := (hR.2.2.2.1 a k).1 (by unfold kdAt; rw [if_neg (by omega), if_neg (by omega), if_pos (by omega), q.1, Nat.add_sub_cancel, hf])
    exact j_get0 C d F hk hl q.1 q.2 (by have := shK_le (a := a) (by omega); omega) (v := vI (m a k)) (by unfold fcv; rw [if_pos hf]; rfl) hok (kk _ h) H locs la hR hS hlv ho hs
  · rw [if_neg q] at h; cases h
theorem j_getL (C : Cx g w own cc nL rt) {ci k idx a N : Nat} {Cn : String} {T : u_T} {ty : Nat → FieldType} {K : Int → Option α} (d : decode cc pc = .ok (.getfield idx, 3)) (F : CF ci Cn T N ty) (hk : k < N) (hl : Cond.fieldLink own idx (T k).1 (T k).2.1 (T k).2.2.1 ∈ tb) (hf : fk ci k = 1) (hn : n = 312)
    (h : (getI ci k a m).bind K = some out) (kk : ∀ v, K v = some out → Jd g w nL R Q (pc + 3) ls (vL v :: st) n m cs sl) : Jd g w nL R Q pc ls (vR a :: st) n m cs sl := by
  intro H locs la hR hS hlv ho hs
  unfold getI at h
  by_cases q : shK a = ci + 10 ∧ k < shN a
  · rw [if_pos q] at h
    have hok := (hR.2.2.2.1 a k).2 (by unfold kdAt; rw [if_neg (by omega), if_neg (by omega), if_pos (by omega), q.1, Nat.add_sub_cancel, hf])
    exact j_get0 C d F hk hl q.1 q.2 (by have := shK_le (a := a) (by omega); omega) (v := vL (m a k)) (by unfold fcv; rw [if_neg (by omega), if_pos hf]; rfl) hok (kk _ h) H locs la hR hS hlv ho hs
  · rw [if_neg q] at h; cases h
theorem j_getR (C : Cx g w own cc nL rt) {ci k idx a N : Nat} {Cn : String} {T : u_T} {ty : Nat → FieldType} {K : Nat → Option α} (d : decode cc pc = .ok (.getfield idx, 3)) (F : CF ci Cn T N ty) (hk : k < N) (hl : Cond.fieldLink own idx (T k).1 (T k).2.1 (T k).2.2.1 ∈ tb) (hf : fk ci k = 2) (hn : n = 312)
    (h : (getR ci k a m).bind K = some out) (kk : ∀ v, K v = some out → Jd g w nL R Q (pc + 3) ls (vR v :: st) n m cs sl) : Jd g w nL R Q pc ls (vR a :: st) n m cs sl := by
  intro H locs la hR hS hlv ho hs
  unfold getR at h
  by_cases q : shK a = ci + 10 ∧ k < shN a ∧ m a k ≠ 0
  · rw [if_pos q] at h
    exact j_get0 C d F hk hl q.1 q.2.1 (by have := shK_le (a := a) (by omega); omega) (v := vR (m a k).toNat) (by unfold fcv rfv; rw [if_neg (by omega), if_neg (by omega), if_neg q.2.2]; rfl) trivial (kk _ h) H locs la hR hS hlv ho hs
  · rw [if_neg q] at h; cases h
theorem j_put0 (C : Cx g w own cc nL rt) {ci k idx a N : Nat} {Cn : String} {T : u_T} {ty : Nat → FieldType} {v : V} {x : Int} (d : decode cc pc = .ok (.putfield idx, 3)) (F : CF ci Cn T N ty) (hk : k < N) (hl : Cond.fieldLink own idx (T k).1 (T k).2.1 (T k).2.2.1 ∈ tb)
    (hw : (T k).2.2.2 = false ∨ ((T k).2.2.2 = true ∧ (gh g).name = "<init>" ∧ (T k).1 = own))
    (hK : shK a = ci + 10) (hkn : k < shN a) (hn : a ≤ n) (hn2 : n ≤ 312) (hx : fcv w (fk ci k) x = cv w v) (hna : narrow (ty k) (cv w v) = cv w v) (hfit : fits (ty k) (cv w v) = true) (hok : okV v → okC a k x) (kk : Jd g w nL R Q (pc + 3) ls st n (up m a k x) cs sl) : Jd g w nL R Q pc ls (v :: vR a :: st) n m cs sl := by
  intro H locs la hR hS hlv ho hs
  have hP := hR.one (shK_dyn (by omega)) hn (by omega) (ent_obj (w := w) (m a) hK)
  have hap := va_apart (own := own) C.2.2.2.2.1 F.2.1 ty F.2.2.1 F.2.2.2 C.k F.1
  obtain ⟨r, h1, cell, q1, q2, q3, q4⟩ := hP 0 _ rfl
  have hr : r = (Cn, T, N) := Option.some.inj (h1.symm.trans F.1)
  subst hr
  obtain ⟨hSl, hfc, kC, hkC, hkind⟩ := C.k.1 ci _ F.1
  obtain ⟨cf, kf, fi, f, hi, hsl⟩ := hSl k hk
  have hlay := C.2.2.2.2.1 _ (F.2.1 _ (u_in_lay hk))
  have hst := (u_facts hfc hkC (u_lays C.2.2.2.2.1 F.2.1 hk) hi).1
  have h3 : 3 ≤ a := shK_dyn (by omega)
  have fin : ∀ (H' : Heap), H'[wA w a]? = some (cell.setSlot ((wD w).2 ci k) (cv w v)) → H'.size = H.size → (∀ q, q ≠ wA w a → H'[q]? = H[q]?) → RelH w n (up m a k x) H' := by
    intro H' e1 e2 e3
    refine hR.put C.rs hn2 h3 hn (by omega) e2 e3 ?_ (hok hs.1)
    rw [ent_obj _ hK]
    refine ⟨_, F.1, t_OB.to (V := updV (vp_V ((List.range (shN a)).map (fun k => fcv w (fk ci k) (m a k)))) k (cv w v)) ⟨_, e1, q2, q3, t_set q4 hap hk (cv w v)⟩ (fun j hj => ?_)⟩
    unfold updV vp_V
    by_cases ej : j = k
    · subst ej
      rw [if_pos rfl, List.getD_eq_getElem?_getD, List.getElem?_map, List.getElem?_range hkn]
      show cv w v = fcv w (fk ci j) (up m a j x a j)
      unfold up; rw [if_pos ⟨rfl, rfl⟩, hx]
    · rw [if_neg ej]
      simp only [List.getD_eq_getElem?_getD, List.getElem?_map]
      by_cases hjn : j < shN a
      · rw [List.getElem?_range hjn]
        show fcv w (fk ci j) (m a j) = fcv w (fk ci j) (up m a k x a j)
        unfold up; rw [if_neg (fun q => ej q.2)]
      · rw [List.getElem?_eq_none (by simp; omega)]; rfl
  have haw : aw w (wA w a) := aw_dyn C.rs h3 (by omega)
  rcases hw with hfin | ⟨hfin, hinit, hdecl⟩
  · unfold u_lay at hlay
    rw [if_neg (by rw [hfin]; decide)] at hlay
    have h6 := u_store hfc hkC hkind hlay hi (F.2.2.1 k hk) hna hfit
    refine W.putK C.1 C.2.1 (f := f) ⟨C.2.2.2.1, C.tbl hl, ⟨_, _, _, hi⟩, hst⟩ (by rw [q2]; exact h6) q1 q3 (by rw [hsl]; exact k2_hasslot (q4 k hk)) rfl rfl d fun H' e1 e2 e3 => ?_
    rw [hsl] at e1 ⊢
    exact kk H' _ la (fin H' e1 e2 e3) (hS.put e2 e3 haw) hlv ho hs.2.2
  · unfold u_lay at hlay
    rw [if_pos hfin] at hlay
    have hcf : (gm g).cls = cf := by
      obtain ⟨_, _, c', _, _, _, -, -, hf', -, -, -, hown2, -⟩ := Cond.laysFinal_spec hlay
      have e1 : c' = cf := by have := hi.symm.trans hf'; simp at this; exact this.1.symm
      rw [hdecl] at hown2
      rw [← e1]; exact Option.some.inj (C.2.2.2.1.symm.trans hown2)
    have h6 := u_fits hfc hkC hkind (Or.inr hlay) hi (F.2.2.1 k hk) hna hfit
    refine W.putFinK C.1 C.2.1 C.2.2.2.1 (C.tbl hl) hi hst hcf hinit (by rw [q2]; exact h6) q1 q3 (by rw [hsl]; exact k2_hasslot (q4 k hk)) rfl rfl d fun H' e1 e2 e3 => ?_
    rw [hsl] at e1 ⊢
    exact kk H' _ la (fin H' e1 e2 e3) (hS.put e2 e3 haw) hlv ho hs.2.2
theorem okC_obj {a ci k : Nat} {x : Int} (hK : shK a = ci + 10) (h0 : fk ci k = 0 → inI x) (h1 : fk ci k = 1 → inL x) : okC a k x := by
  have e : kdAt a k = fk ci k := by unfold kdAt; rw [if_neg (by omega), if_neg (by omega), if_pos (by omega), hK, Nat.add_sub_cancel]
  unfold okC; rw [e]; exact ⟨h0, h1⟩
theorem j_putI (C : Cx g w own cc nL rt) {ci k idx a N : Nat} {Cn : String} {T : u_T} {ty : Nat → FieldType} {x : Int} {K : Mem → Option α} (d : decode cc pc = .ok (.putfield idx, 3)) (F : CF ci Cn T N ty) (hk : k < N) (hl : Cond.fieldLink own idx (T k).1 (T k).2.1 (T k).2.2.1 ∈ tb) (hf : fk ci k = 0) (ht : ty k = .int) (hfin : (T k).2.2.2 = false) (hn : n = 312)
    (h : (putI ci k a x m).bind K = some out) (kk : ∀ m', K m' = some out → Jd g w nL R Q (pc + 3) ls st n m' cs sl) : Jd g w nL R Q pc ls (vI x :: vR a :: st) n m cs sl := by
  unfold putI at h
  by_cases q : shK a = ci + 10 ∧ k < shN a
  · rw [if_pos q] at h
    exact j_put0 C d F hk hl (Or.inl hfin) q.1 q.2 (by have := shK_le (a := a) (by omega); omega) (by omega) (v := vI x) (by unfold fcv; rw [if_pos hf]; rfl) (by rw [ht]; rfl) (by rw [ht]; rfl) (fun o => okC_obj q.1 (fun _ => o) (fun e => by omega)) (kk _ h)
  · rw [if_neg q] at h; cases h
theorem j_putZ (C : Cx g w own cc nL rt) {ci k idx a N : Nat} {Cn : String} {T : u_T} {ty : Nat → FieldType} {x : Int} {K : Mem → Option α} (d : decode cc pc = .ok (.putfield idx, 3)) (F : CF ci Cn T N ty) (hk : k < N) (hl : Cond.fieldLink own idx (T k).1 (T k).2.1 (T k).2.2.1 ∈ tb) (hf : fk ci k = 0) (ht : ty k = .boolean) (hfin : (T k).2.2.2 = false) (hn : n = 312)
    (h : (putZ ci k a x m).bind K = some out) (kk : ∀ m', K m' = some out → Jd g w nL R Q (pc + 3) ls st n m' cs sl) : Jd g w nL R Q pc ls (vI x :: vR a :: st) n m cs sl := by
  unfold putZ at h
  by_cases q : shK a = ci + 10 ∧ k < shN a ∧ (x = 0 ∨ x = 1)
  · rw [if_pos q] at h
    exact j_put0 C d F hk hl (Or.inl hfin) q.1 q.2.1 (by have := shK_le (a := a) (by omega); omega) (by omega) (v := vI x) (by unfold fcv; rw [if_pos hf]; rfl) (by rw [ht]; rcases q.2.2 with e | e <;> subst e <;> rfl) (by rw [ht]; rcases q.2.2 with e | e <;> subst e <;> rfl) (fun o => okC_obj q.1 (fun _ => o) (fun e => by omega)) (kk _ h)
  · rw [if_neg q] at h; cases h
theorem j_putL (C : Cx g w own cc nL rt) {ci k idx a N : Nat} {Cn : String} {T : u_T} {ty : Nat → FieldType} {x : Int} {K : Mem → Option α} (d : decode cc pc = .ok (.putfield idx, 3)) (F : CF ci Cn T N ty) (hk : k < N) (hl : Cond.fieldLink own idx (T k).1 (T k).2.1 (T k).2.2.1 ∈ tb) (hf : fk ci k = 1) (ht : ty k = .long) (hfin : (T k).2.2.2 = false) (hn : n = 312)
    (h : (putI ci k a x m).bind K = some out) (kk : ∀ m', K m' = some out → Jd g w nL R Q (pc + 3) ls st n m' cs sl) : Jd g w nL R Q pc ls (vL x :: vR a :: st) n m cs sl := by
  unfold putI at h
  by_cases q : shK a = ci + 10 ∧ k < shN a
  · rw [if_pos q] at h
    exact j_put0 C d F hk hl (Or.inl hfin) q.1 q.2 (by have := shK_le (a := a) (by omega); omega) (by omega) (v := vL x) (by unfold fcv; rw [if_neg (by omega), if_pos hf]; rfl) (by rw [ht]; rfl) (by rw [ht]; rfl) (fun o => okC_obj q.1 (fun e => by omega) (fun _ => o)) (kk _ h)
  · rw [if_neg q] at h; cases h
theorem j_putR (C : Cx g w own cc nL rt) {ci k idx a N : Nat} {Cn : String} {T : u_T} {ty : Nat → FieldType} {x : Nat} {K : Mem → Option α} (d : decode cc pc = .ok (.putfield idx, 3)) (F : CF ci Cn T N ty) (hk : k < N) (hl : Cond.fieldLink own idx (T k).1 (T k).2.1 (T k).2.2.1 ∈ tb) (hf : fk ci k = 2) (ht : (∃ c, ty k = .object c) ∨ ∃ t, ty k = .array t) (hfin : (T k).2.2.2 = false) (hn : n = 312)
    (h : (putR ci k a x m).bind K = some out) (kk : ∀ m', K m' = some out → Jd g w nL R Q (pc + 3) ls st n m' cs sl) : Jd g w nL R Q pc ls (vR x :: vR a :: st) n m cs sl := by
  unfold putR at h
  by_cases q : shK a = ci + 10 ∧ k < shN a ∧ x ≠ 0
  · rw [if_pos q] at h
    refine j_put0 C d F hk hl (Or.inl hfin) q.1 q.2.1 (by have := shK_le (a := a) (by omega); omega) (by omega) (v := vR x) (x := (x : Int)) (by unfold fcv rfv; rw [if_neg (by omega), if_neg (by omega), if_neg (by omega)]; rfl) ?_ ?_ (fun o => okC_obj q.1 (fun e => by omega) (fun e => by omega)) (kk _ h)
    · rcases ht with ⟨c, e⟩ | ⟨t, e⟩ <;> rw [e] <;> rfl
    · rcases ht with ⟨c, e⟩ | ⟨t, e⟩ <;> rw [e] <;> rfl
  · rw [if_neg q] at h; cases h
theorem in_of {i : Int} {N : Nat} (hi : inI i) (h0 : 0 ≤ i) (h : i < N) : vp_in (Int32.ofInt i) N := by
  unfold vp_in
  rw [ltI0 hi, natI hi]; omega
theorem j_iald (C : Cx g w own cc nL rt) {a : Nat} {i : Int} {K : Int → Option α} (d : decode cc pc = .ok (.iaload, 1)) (hn : n = 312) (h : (aldI a i m).bind K = some out) (kk : ∀ v, K v = some out → Jd g w nL R Q (pc + 1) ls (vI v :: st) n m cs sl) : Jd g w nL R Q pc ls (vI i :: vR a :: st) n m cs sl := by
  intro H locs la hR hS hlv ho hs
  unfold aldI at h
  by_cases q : shK a = 1 ∧ 0 ≤ i ∧ i < shN a
  · rw [if_pos q] at h
    have hok := (hR.2.2.2.1 a i.toNat).1 (by unfold kdAt; rw [if_pos q.1])
    have fin := kk _ h H locs la hR hS hlv ho ⟨hok, hs.2.2⟩
    have h1 := shK_pos (a := a) (by omega)
    rcases Nat.lt_or_ge a 3 with q3 | q3
    · have hT : va_T .int (wA w a) 8 (fun j => .int (Int32.ofInt (mst a j))) (aw w) (gs g) (gs g).heap ∧ m a i.toNat = mst a i.toNat ∧ shN a = 8 := by
        rcases (show a = 1 ∨ a = 2 by omega) with e | e <;> subst e
        · exact ⟨C.str.2.2.2.2.2.2.2.1, hR.2.2.2.2.2.1 _, rfl⟩
        · exact ⟨C.str.2.2.2.2.2.2.2.2, hR.2.2.2.2.2.2 _, rfl⟩
      obtain ⟨hT, hm, hN⟩ := hT
      obtain ⟨cell, t1, t2, t3, t4, t5, t6, t7⟩ := hT.kept hS.2.1
      have hlt : i.toNat < 8 := by omega
      have hin : ¬ (Int32.ofInt i < 0 ∨ cell.slots.size ≤ (Int32.ofInt i).toNatClampNeg) := by
        rw [natI hs.1]
        intro z
        rcases z with z | z
        · have := (ltI0 hs.1).mp z
          omega
        · omega
      exact W.iald C.1 C.2.1 t1 t2 t3 hin (by rw [natI hs.1, t6 _ hlt, hm]; rfl) rfl rfl d fin
    · have hP := hR.one q3 (by have := shK_le (a := a) (by omega); omega) (by omega) (ent_I (w := w) (m a) q.1)
      refine va_iald C.1 C.2.1 C.k hP 0 0 rfl rfl (in_of hs.1 q.2.1 q.2.2) d ?_
      rw [natI hs.1]
      exact fin
  · rw [if_neg q] at h; cases h
theorem j_lald (C : Cx g w own cc nL rt) {a : Nat} {i : Int} {K : Int → Option α} (d : decode cc pc = .ok (.laload, 1)) (hn : n = 312) (h : (aldL a i m).bind K = some out) (kk : ∀ v, K v = some out → Jd g w nL R Q (pc + 1) ls (vL v :: st) n m cs sl) : Jd g w nL R Q pc ls (vI i :: vR a :: st) n m cs sl := by
  intro H locs la hR hS hlv ho hs
  unfold aldL at h
  by_cases q : shK a = 2 ∧ 0 ≤ i ∧ i < shN a
  · rw [if_pos q] at h
    have hP := hR.one (shK_dyn (by omega)) (by have := shK_le (a := a) (by omega); omega) (by omega) (ent_L (w := w) (m a) q.1)
    have hok := (hR.2.2.2.1 a i.toNat).2 (by unfold kdAt; rw [if_neg (by omega), if_pos q.1])
    refine va_lald C.1 C.2.1 C.k hP 0 1 rfl rfl (in_of hs.1 q.2.1 q.2.2) d ?_
    rw [natI hs.1]
    exact kk _ h H locs la hR hS hlv ho ⟨hok, hs.2.2⟩
  · rw [if_neg q] at h; cases h
theorem j_aald (C : Cx g w own cc nL rt) {a : Nat} {i : Int} {K : Nat → Option α} (d : decode cc pc = .ok (.aaload, 1)) (hn : n = 312) (h : (aldR a i m).bind K = some out) (kk : ∀ v, K v = some out → Jd g w nL R Q (pc + 1) ls (vR v :: st) n m cs sl) : Jd g w nL R Q pc ls (vI i :: vR a :: st) n m cs sl := by
  intro H locs la hR hS hlv ho hs
  unfold aldR at h
  by_cases q : (shK a = 3 ∨ shK a = 4) ∧ 0 ≤ i ∧ i < shN a ∧ m a i.toNat ≠ 0
  · rw [if_pos q] at h
    have hin := in_of hs.1 q.2.1 q.2.2.1
    have hlt : (Int32.ofInt i).toNatClampNeg < shN a := Nat.not_le.mp fun z => hin (Or.inr z)
    have hend := kk _ h H locs la hR hS hlv ho ⟨trivial, hs.2.2⟩
    rcases q.1 with q1 | q1
    · have hP := hR.one (shK_dyn (by omega)) (by have := shK_le (a := a) (by omega); omega) (by omega) (ent_3 (w := w) (m a) q1)
      refine W.aald (v := .ref (wA w (m a i.toNat).toNat)) C.1 C.2.1 (hP 0 _ rfl) ((C.k.2 2 _ rfl).1 (shN a) (fun j => va_rf (rfv w (m a j)))) rfl (fun z => by cases z) (by show ¬ (_ ∨ (arrV _ _ _).slots.size ≤ _); rw [arrV_size]; exact hin) (by show (arrV _ _ _).slots[_]? = _; rw [arrV_read _ _ hlt, natI hs.1]; show some (va_rf (rfv w (m a i.toNat))) = _; unfold rfv; rw [if_neg q.2.2.2]; rfl) rfl rfl d hend
    · have hP := hR.one (shK_dyn (by omega)) (by have := shK_le (a := a) (by omega); omega) (by omega) (ent_4 (w := w) (m a) q1)
      refine W.aald (v := .ref (wA w (m a i.toNat).toNat)) C.1 C.2.1 (hP 0 _ rfl) ((C.k.2 3 _ rfl).1 (shN a) (fun j => va_rf (rfv w (m a j)))) rfl (fun z => by cases z) (by show ¬ (_ ∨ (arrV _ _ _).slots.size ≤ _); rw [arrV_size]; exact hin) (by show (arrV _ _ _).slots[_]? = _; rw [arrV_read _ _ hlt, natI hs.1]; show some (va_rf (rfv w (m a i.toNat))) = _; unfold rfv; rw [if_neg q.2.2.2]; rfl) rfl rfl d hend
  · rw [if_neg q] at h; cases h
theorem j_iast0 (C : Cx g w own cc nL rt) {a : Nat} {i x : Int} (d : decode cc pc = .ok (.iastore, 1)) (hn2 : n ≤ 312) (hn : a ≤ n) (q : shK a = 1 ∧ 3 ≤ a ∧ 0 ≤ i ∧ i < shN a) (kk : Jd g w nL R Q (pc + 1) ls st n (up m a i.toNat x) cs sl) : Jd g w nL R Q pc ls (vI x :: vI i :: vR a :: st) n m cs sl := by
  intro H locs la hR hS hlv ho hs
  have hP := hR.one q.2.1 hn (by omega) (ent_I (w := w) (m a) q.1)
  have hin := in_of hs.2.1 q.2.2.1 q.2.2.2
  refine W.iast C.1 C.2.1 (hP 0 _ rfl) ((C.k.2 0 _ rfl).1 (shN a) (fun j => .int (Int32.ofInt (m a j)))) (fun z => by cases z) (by show ¬ (_ ∨ (arrV _ _ _).slots.size ≤ _); rw [arrV_size]; exact hin) rfl rfl d fun H1 e z oq => ?_
  refine kk H1 _ la (hR.put C.rs hn2 q.2.1 hn (by omega) z oq ?_ ?_) (hS.put z oq (aw_dyn C.rs q.2.1 (by omega))) hlv ho hs.2.2.2
  · rw [ent_I _ q.1]
    show H1[wA w a]? = some (vp_cell _ _)
    rw [e]
    rw [vp_cell_i, vp_cell_i, arrV_store, natI hs.2.1]
    congr 2
    funext j
    unfold updV up
    by_cases hj : j = i.toNat
    · rw [if_pos hj, if_pos ⟨rfl, hj⟩]
    · rw [if_neg hj, if_neg (fun z => hj z.2)]
  · unfold okC kdAt; rw [if_pos q.1]; exact ⟨fun _ => hs.1, fun z => by cases z⟩
theorem j_iast (C : Cx g w own cc nL rt) {a : Nat} {i x : Int} {K : Mem → Option α} (d : decode cc pc = .ok (.iastore, 1)) (hn : n = 312) (h : (astI a i x m).bind K = some out) (kk : ∀ m', K m' = some out → Jd g w nL R Q (pc + 1) ls st n m' cs sl) : Jd g w nL R Q pc ls (vI x :: vI i :: vR a :: st) n m cs sl := by
  unfold astI at h
  by_cases q : shK a = 1 ∧ 3 ≤ a ∧ 0 ≤ i ∧ i < shN a
  · rw [if_pos q] at h
    exact j_iast0 C d (by omega) (by have := shK_le (a := a) (by omega); omega) q (kk _ h)
  · rw [if_neg q] at h; cases h
theorem j_last0 (C : Cx g w own cc nL rt) {a : Nat} {i x : Int} (d : decode cc pc = .ok (.lastore, 1)) (hn2 : n ≤ 312) (hn : a ≤ n) (q : shK a = 2 ∧ 3 ≤ a ∧ 0 ≤ i ∧ i < shN a) (kk : Jd g w nL R Q (pc + 1) ls st n (up m a i.toNat x) cs sl) : Jd g w nL R Q pc ls (vL x :: vI i :: vR a :: st) n m cs sl := by
  intro H locs la hR hS hlv ho hs
  have hP := hR.one q.2.1 hn (by omega) (ent_L (w := w) (m a) q.1)
  have hin := in_of hs.2.1 q.2.2.1 q.2.2.2
  refine W.last C.1 C.2.1 (hP 0 _ rfl) ((C.k.2 1 _ rfl).1 (shN a) (fun j => .long (Int64.ofInt (m a j)))) (fun z => by cases z) (by show ¬ (_ ∨ (arrV _ _ _).slots.size ≤ _); rw [arrV_size]; exact hin) rfl rfl d fun H1 e z oq => ?_
  refine kk H1 _ la (hR.put C.rs hn2 q.2.1 hn (by omega) z oq ?_ ?_) (hS.put z oq (aw_dyn C.rs q.2.1 (by omega))) hlv ho hs.2.2.2
  · rw [ent_L _ q.1]
    show H1[wA w a]? = some (vp_cell _ _)
    rw [e]
    rw [vp_cell_l, vp_cell_l, arrV_store, natI hs.2.1]
    congr 2
    funext j
    unfold updV up
    by_cases hj : j = i.toNat
    · rw [if_pos hj, if_pos ⟨rfl, hj⟩]
    · rw [if_neg hj, if_neg (fun z => hj z.2)]
  · unfold okC kdAt; rw [if_neg (by omega), if_pos q.1]; exact ⟨fun z => absurd z (by decide), fun _ => hs.1⟩
theorem j_last (C : Cx g w own cc nL rt) {a : Nat} {i x : Int} {K : Mem → Option α} (d : decode cc pc = .ok (.lastore, 1)) (hn : n = 312) (h : (astL a i x m).bind K = some out) (kk : ∀ m', K m' = some out → Jd g w nL R Q (pc + 1) ls st n m' cs sl) : Jd g w nL R Q pc ls (vL x :: vI i :: vR a :: st) n m cs sl := by
  unfold astL at h
  by_cases q : shK a = 2 ∧ 3 ≤ a ∧ 0 ≤ i ∧ i < shN a
  · rw [if_pos q] at h
    exact j_last0 C d (by omega) (by have := shK_le (a := a) (by omega); omega) q (kk _ h)
  · rw [if_neg q] at h; cases h
theorem j_alen (C : Cx g w own cc nL rt) {a : Nat} {K : Int → Option α} (d : decode cc pc = .ok (.arraylength, 1)) (hn : n = 312) (h : (alen a).bind K = some out) (kk : ∀ v, K v = some out → Jd g w nL R Q (pc + 1) ls (vI v :: st) n m cs sl) : Jd g w nL R Q pc ls (vR a :: st) n m cs sl := by
  intro H locs la hR hS hlv ho hs
  unfold alen at h
  by_cases q : 1 ≤ shK a ∧ shK a ≤ 4
  · rw [if_pos q] at h
    have h1 := shK_pos (a := a) (by omega)
    have h2 : a ≤ n := by have := shK_le (a := a) (by omega); omega
    have hN := shN_lt a
    have hend := kk _ h H locs la hR hS hlv ho ⟨(by show inI _; unfold inI; omega), hs.2⟩
    rcases Nat.lt_or_ge a 3 with q3 | q3
    · have hT : ∃ f, va_T .int (wA w a) 8 f (aw w) (gs g) (gs g).heap ∧ shN a = 8 := by
        rcases (show a = 1 ∨ a = 2 by omega) with e | e <;> subst e
        · exact ⟨_, C.str.2.2.2.2.2.2.2.1, rfl⟩
        · exact ⟨_, C.str.2.2.2.2.2.2.2.2, rfl⟩
      obtain ⟨f, hT, hN⟩ := hT
      obtain ⟨cell, t1, t2, t3, t4, t5, t6, t7⟩ := hT.kept hS.2.1
      refine W.alen C.1 C.2.1 t1 t2 (n := Int32.ofInt (shN a : Int)) (by rw [t5, hN]; rfl) rfl rfl d hend
    rcases (show shK a = 1 ∨ shK a = 2 ∨ shK a = 3 ∨ shK a = 4 by omega) with e | e | e | e
    · exact va_alen C.1 C.2.1 C.k (hR.one q3 h2 (by omega) (ent_I (w := w) (m a) e)) 0 0 rfl rfl rfl d hend
    · exact va_alen C.1 C.2.1 C.k (hR.one q3 h2 (by omega) (ent_L (w := w) (m a) e)) 0 1 rfl rfl rfl d hend
    · exact va_alen C.1 C.2.1 C.k (hR.one q3 h2 (by omega) (ent_3 (w := w) (m a) e)) 0 2 rfl rfl rfl d hend
    · exact va_alen C.1 C.2.1 C.k (hR.one q3 h2 (by omega) (ent_4 (w := w) (m a) e)) 0 3 rfl rfl rfl d hend
  · rw [if_neg q] at h; cases h
theorem j_gets (C : Cx g w own cc nL rt) {idx : Nat} {nm : String} (a : Nat) (d : decode cc pc = .ok (.getstatic idx, 3)) (hl : Cond.fieldLink own idx RX5 nm "[I" ∈ tb) (ha : (a = 1 ∧ nm = "ACROSS") ∨ (a = 2 ∧ nm = "DOWNWARD")) (kk : Jd g w nL R Q (pc + 3) ls (vR a :: st) n m cs sl) : Jd g w nL R Q pc ls st n m cs sl := by
  intro H locs la hR hS hlv ho hs
  have hend := kk H locs la hR hS hlv ho ⟨trivial, hs⟩
  rcases ha with ⟨e1, e2⟩ | ⟨e1, e2⟩ <;> subst e1 <;> subst e2
  · exact va_gets C.1 C.2.1 C.rs.2.2.2.2.1 hS C.2.2.2.1 (C.tbl hl) (fun x h => h) d hend
  · exact va_gets C.1 C.2.1 C.rs.2.2.2.2.2.1 hS C.2.2.2.1 (C.tbl hl) (fun x h => h) d hend
end JH
