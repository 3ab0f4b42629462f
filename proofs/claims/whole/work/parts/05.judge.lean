/-! the world and the judgement -/
def tb : List Cond := lw_tbl.filter goodWord
theorem tb_in {q : Cond} (h : q ∈ lw_tbl) (hg : goodWord q = true) : q ∈ tb := List.mem_filter.mpr ⟨h, hg⟩
theorem tb_good : ∀ q ∈ tb, (q.onTables && q.keeps) = true ∨ ∃ ty, q = .arrayClass ty := fun q h => good_of_word (List.mem_filter.mp h).2
theorem tb_goodIn : GoodIn tb tb := fun q h => ⟨h, tb_good q h⟩
def mst : Mem := fun a k => if a = 1 then ([0, 1, 0, -1, 1, 1, -1, -1] : List Int).getD k 0 else if a = 2 then ([-1, 0, 1, 0, -1, 1, 1, -1] : List Int).getD k 0 else 0
abbrev Wd : Type := va_G × (Nat → Nat) × (Nat → ClassId) × Nat
def wD (w : Wd) : va_G := w.1
def wA (w : Wd) : Nat → Nat := w.2.1
def wC (w : Wd) : Nat → ClassId := w.2.2.1
def wB (w : Wd) : Nat := w.2.2.2
def aw (w : Wd) : Nat → Prop := fun q => wB w ≤ q
def tysW (w : Wd) : List (ClassId × FieldType) := [(wC w 0, .int), (wC w 1, .long), (wC w 2, .array .int), (wC w 3, .object RX1)]
def shK (a : Nat) : Nat := (shL.getD a (0, 0)).1
def shN (a : Nat) : Nat := (shL.getD a (0, 0)).2
/-- numbers that no object has (9, 10, 39, 68): how many of them lie up to a number -/
def ghc (a : Nat) : Nat := if a ≤ 8 then 0 else if a ≤ 38 then 2 else if a ≤ 67 then 3 else 4
/-- the number of the object that comes next -/
def nxo (n : Nat) : Nat := if n = 8 then 11 else if n = 38 then 40 else if n = 67 then 69 else n + 1
theorem ghc_c (a : Nat) : (a ≤ 8 ∧ ghc a = 0) ∨ (9 ≤ a ∧ a ≤ 38 ∧ ghc a = 2) ∨ (39 ≤ a ∧ a ≤ 67 ∧ ghc a = 3) ∨ (68 ≤ a ∧ ghc a = 4) := by
  unfold ghc
  by_cases h1 : a ≤ 8
  · rw [if_pos h1]; omega
  · rw [if_neg h1]
    by_cases h2 : a ≤ 38
    · rw [if_pos h2]; omega
    · rw [if_neg h2]
      by_cases h3 : a ≤ 67
      · rw [if_pos h3]; omega
      · rw [if_neg h3]; omega
theorem nxo_c (n : Nat) : (n = 8 ∧ nxo n = 11) ∨ (n = 38 ∧ nxo n = 40) ∨ (n = 67 ∧ nxo n = 69) ∨ (n ≠ 8 ∧ n ≠ 38 ∧ n ≠ 67 ∧ nxo n = n + 1) := by
  unfold nxo
  by_cases h1 : n = 8
  · rw [if_pos h1]; omega
  · rw [if_neg h1]
    by_cases h2 : n = 38
    · rw [if_pos h2]; omega
    · rw [if_neg h2]
      by_cases h3 : n = 67
      · rw [if_pos h3]; omega
      · rw [if_neg h3]; omega
theorem nxo_gt (n : Nat) : n < nxo n := by have := nxo_c n; omega
theorem sh_g {a : Nat} (h : shK a ≠ 0) : a ≠ 9 ∧ a ≠ 10 ∧ a ≠ 39 ∧ a ≠ 68 := by
  refine ⟨fun e => ?_, fun e => ?_, fun e => ?_, fun e => ?_⟩ <;> subst e <;> exact h (by decide +kernel)
def fk (ci k : Nat) : Nat := (fkL.getD ci []).getD k 3
def cv (w : Wd) : V → Value
  | .inl x => .int (Int32.ofInt x)
  | .inr (.inl x) => .long (Int64.ofInt x)
  | .inr (.inr r) => .ref (wA w r)
def okV : V → Prop
  | .inl x => inI x
  | .inr (.inl x) => inL x
  | .inr (.inr _) => True
def rfv (w : Wd) (x : Int) : Option Nat := if x = 0 then none else some (wA w x.toNat)
def fcv (w : Wd) (kd : Nat) (x : Int) : Value := if kd = 0 then .int (Int32.ofInt x) else if kd = 1 then .long (Int64.ofInt x) else va_rf (rfv w x)
def ent (w : Wd) (a : Nat) (f : Nat → Int) : va_E :=
  if shK a = 1 then .inl (wC w 0, shN a, .inl (fun j => Int32.ofInt (f j)))
  else if shK a = 2 then .inl (wC w 1, shN a, .inr (.inl (fun j => Int64.ofInt (f j))))
  else if shK a = 3 then .inl (wC w 2, shN a, .inr (.inr (.inr (.inr (fun j => rfv w (f j))))))
  else if shK a = 4 then .inl (wC w 3, shN a, .inr (.inr (.inr (.inr (fun j => rfv w (f j))))))
  else .inr (shK a - 10, (List.range (shN a)).map (fun k => fcv w (fk (shK a - 10) k) (f k)))
/-- which sort of number stands at a place: 0 an int, 1 a long, else none -/
def kdAt (a k : Nat) : Nat := if shK a = 1 then 0 else if shK a = 2 then 1 else if 10 ≤ shK a then fk (shK a - 10) k else 3
def okC (a k : Nat) (x : Int) : Prop := (kdAt a k = 0 → inI x) ∧ (kdAt a k = 1 → inL x)
def RelH (w : Wd) (n : Nat) (m : Mem) (H : Heap) : Prop :=
  (∀ a, 3 ≤ a → a ≤ n → shK a ≠ 0 → va_at (wD w) vwCl (wA w a, ent w a (m a)) H) ∧ H.size + 2 + ghc n = wB w + n ∧ 2 ≤ n ∧ (∀ a k, okC a k (m a k)) ∧ (∀ a, n < a → ∀ k, m a k = 0) ∧ (∀ k, m 1 k = mst 1 k) ∧ ∀ k, m 2 k = mst 2 k
def isNestM : Cond → Bool
  | .methodLinkNest .. => true
  | _ => false
def xn : List Cond := lw_tbl.filter isNestM
def strT : String := "island height at wall house cistern cloth takes stone web sky dew dries drinks cloudy wring open high cold hour cloud wind smoke near wet min max "
def strI : List Int := [105, 115, 108, 97, 110, 100, 32, 104, 101, 105, 103, 104, 116, 32, 97, 116, 32, 119, 97, 108, 108, 32, 104, 111, 117, 115, 101, 32, 99, 105, 115, 116, 101, 114, 110, 32, 99, 108, 111, 116, 104, 32, 116, 97, 107, 101, 115, 32, 115, 116, 111, 110, 101, 32, 119, 101, 98, 32, 115, 107, 121, 32, 100, 101, 119, 32, 100, 114, 105, 101, 115, 32, 100, 114, 105, 110, 107, 115, 32, 99, 108, 111, 117, 100, 121, 32, 119, 114, 105, 110, 103, 32, 111, 112, 101, 110, 32, 104, 105, 103, 104, 32, 99, 111, 108, 100, 32, 104, 111, 117, 114, 32, 99, 108, 111, 117, 100, 32, 119, 105, 110, 100, 32, 115, 109, 111, 107, 101, 32, 110, 101, 97, 114, 32, 119, 101, 116, 32, 109, 105, 110, 32, 109, 97, 120, 32]
/-- the String constant that the class reads, and what its reading asks of the JDK's statics -/
def StrW (w : Wd) (U : State) : Prop :=
  vk_R RX8 29 strT (wA w 20000) U ∧ va_O "java/lang/String" (wA w 20000) (aw w) U U.heap ∧ va_OF "java/lang/String" "coder" "B" (.int 0) (wA w 20000) (aw w) U U.heap ∧ va_OF "java/lang/String" "value" "[B" (.ref (wA w 20001)) (wA w 20000) (aw w) U U.heap ∧
  va_T .byte (wA w 20001) 146 (fun j => .int (Int32.ofInt (strI.getD j 0))) (aw w) U U.heap ∧ va_Z "java/lang/String" "COMPACT_STRINGS" "Z" (.int 1) (aw w) U U.heap ∧ va_Zq "jdk/internal/util/Preconditions" "SIOOBE_FORMATTER" "Ljava/util/function/BiFunction;" (aw w) U U.heap ∧
  va_T .int (wA w 1) 8 (fun j => .int (Int32.ofInt (mst 1 j))) (aw w) U U.heap ∧ va_T .int (wA w 2) 8 (fun j => .int (Int32.ofInt (mst 2 j))) (aw w) U U.heap
theorem StrW.moved {w : Wd} {s U : State} (h : StrW w s) (hW : s.WarmedH U.vm) (hk : ∀ a : Nat, a < s.heap.size → ¬ aw w a → U.heap[a]? = s.heap[a]?) : StrW w U := by
  obtain ⟨h1, h2, h3, h4, h5, h6, h7, h8, h9⟩ := h
  exact ⟨h1.warm hW, (va_O.moved hW.alike h2).kept hk, (va_OF.moved hW.alike h3).kept hk, (va_OF.moved hW.alike h4).kept hk, (va_T.moved hW.alike h5).kept hk, (va_Z.moved hW.alike h6).kept hk, (va_Zq.moved hW.alike h7).kept hk, (va_T.moved hW.alike h8).kept hk, (va_T.moved hW.alike h9).kept hk⟩
theorem StrW.same {w : Wd} {u U : State} (hv : U.vm = u.vm) (hh : U.heap = u.heap) (h : StrW w u) : StrW w U := by
  obtain ⟨h1, h2, h3, h4, h5, h6, h7, h8, h9⟩ := h
  have al : u.vm.Alike U.vm := by rw [hv]; exact Vm.Alike.refl _
  have hk : ∀ a : Nat, a < u.heap.size → ¬ aw w a → U.heap[a]? = u.heap[a]? := fun a _ _ => by rw [hh]
  exact ⟨h1.same hv, (va_O.moved al h2).kept hk, (va_OF.moved al h3).kept hk, (va_OF.moved al h4).kept hk, (va_T.moved al h5).kept hk, (va_Z.moved al h6).kept hk, (va_Zq.moved al h7).kept hk, (va_T.moved al h8).kept hk, (va_T.moved al h9).kept hk⟩
def RelS (w : Wd) (U : State) : Prop :=
  va_K (wD w) vwCl (tysW w) U ∧ (∀ a, 2 < a → a ≤ 312 → wA w a + ghc a = wB w + (a - 3)) ∧ wA w 1 < wB w ∧ wA w 2 < wB w ∧
  va_Z RX5 "ACROSS" "[I" (.ref (wA w 1)) (aw w) U U.heap ∧ va_Z RX5 "DOWNWARD" "[I" (.ref (wA w 2)) (aw w) U U.heap ∧ wB w ≤ U.heap.size ∧ (∀ q ∈ xn, va_Nw q U) ∧ va_AO RX1 U ∧ (Cond.arrayOver (.array .int)).before #[] U = true ∧ StrW w U
theorem va_Nw.warmX {q : Cond} (hq : q ∈ xn) {s U : State} (hW : s.WarmedH U.vm) (h : va_Nw q s) : va_Nw q U := by
  have hb := (List.mem_filter.mp hq).2
  cases q <;> first | exact va_Nw.warmM hW h | cases hb
abbrev Gm : Type := Program × Launch × Env × State × MethodId × Array Value × List Frame × Method × Code
def gp (g : Gm) : Program := g.1
def gl (g : Gm) : Launch := g.2.1
def ge (g : Gm) : Env := g.2.2.1
def gs (g : Gm) : State := g.2.2.2.1
def gm (g : Gm) : MethodId := g.2.2.2.2.1
def ga (g : Gm) : Array Value := g.2.2.2.2.2.1
def gb (g : Gm) : List Frame := g.2.2.2.2.2.2.1
def gh (g : Gm) : Method := g.2.2.2.2.2.2.2.1
def gc (g : Gm) : Code := g.2.2.2.2.2.2.2.2
def Cx (g : Gm) (w : Wd) (own : String) (cc : ByteArray) (nL : Nat) (rt : Option FieldType) : Prop :=
  (gp g).tables.exec = Jvm.exec ∧ (gc g).code = cc ∧ (gc g).maxLocals = nL ∧ (gs g).vm.findClass own = some (gm g).cls ∧ (∀ q ∈ tb, q.before (ga g) (gs g) = true) ∧ (gh g).locks = false ∧ (gh g).sig.returnType = rt ∧ RelS w (gs g)
def lcv (w : Wd) : Nat → List (Option V) → List (Nat × Value)
  | _, [] => []
  | i, none :: t => lcv w (i + 1) t
  | i, some v :: t => (i, cv w v) :: lcv w (i + 1) t
def okL : List (Option V) → Prop
  | [] => True
  | none :: t => okL t
  | some v :: t => okV v ∧ okL t
def okS : List V → Prop
  | [] => True
  | v :: t => okV v ∧ okS t
def Jd (g : Gm) (w : Wd) (nL : Nat) (R : Room) (Q : State → Prop) (pc : Nat) (ls : List (Option V)) (st : List V) (n : Nat) (m : Mem) (cs sl : Nat) : Prop :=
  ∀ (H : Heap) (locs : List Loc) (la : Array Slot), RelH w n m H → va_S (aw w) (gs g).heap H locs → lv_has la nL (lcv w 0 ls) → okL ls → okS st →
    W (gp g) (gl g) (ge g) R (gs g) (gm g) (ga g) (gb g) (gh g) (gc g) H locs cs sl Q (F0 (gm g) pc la (st.map (cv w)))
theorem okL_at {ls : List (Option V)} {k : Nat} {v : V} (h : okL ls) (hk : ls[k]? = some (some v)) : okV v := by
  induction ls generalizing k with
  | nil => simp at hk
  | cons a t ih =>
    cases k with
    | zero =>
      simp at hk; subst hk; exact h.1
    | succ k =>
      simp at hk
      cases a with
      | none => exact ih h hk
      | some u => exact ih h.2 hk
theorem lcv_mem {w : Wd} {ls : List (Option V)} {k i : Nat} {v : V} (hk : ls[k]? = some (some v)) : (i + k, cv w v) ∈ lcv w i ls := by
  induction ls generalizing k i with
  | nil => simp at hk
  | cons a t ih =>
    cases k with
    | zero =>
      simp at hk; subst hk; exact List.mem_cons_self
    | succ k =>
      simp at hk
      have := ih (i := i + 1) hk
      rw [show i + 1 + k = i + (k + 1) by omega] at this
      cases a with
      | none => exact this
      | some u => exact List.mem_cons_of_mem _ this
theorem lcv_has {w : Wd} {ls : List (Option V)} {i : Nat} {q : Nat × Value} (h : q ∈ lcv w i ls) : ∃ (k : Nat) (v : V), ls[k]? = some (some v) ∧ q = (i + k, cv w v) := by
  induction ls generalizing i with
  | nil => cases h
  | cons a t ih =>
    cases a with
    | none =>
      obtain ⟨k, v, h1, h2⟩ := ih h
      exact ⟨k + 1, v, by simpa using h1, by rw [h2]; congr 1; omega⟩
    | some u =>
      rcases List.mem_cons.mp h with h | h
      · exact ⟨0, u, rfl, h⟩
      · obtain ⟨k, v, h1, h2⟩ := ih h
        exact ⟨k + 1, v, by simpa using h1, by rw [h2]; congr 1; omega⟩
theorem lv_get {w : Wd} {la : Array Slot} {nL : Nat} {ls : List (Option V)} (h : lv_has la nL (lcv w 0 ls)) {k : Nat} {v : V} (hk : ls[k]? = some (some v)) : la[k]? = some (.val (cv w v)) := by
  have := h.2.2 _ (lcv_mem (w := w) (i := 0) hk)
  simpa using this
theorem lv_mk {w : Wd} {la : Array Slot} {nL : Nat} {ls : List (Option V)} (h1 : la.size = nL) (h2 : lv_wf la) (h : ∀ (k : Nat) (v : V), ls[k]? = some (some v) → la[k]? = some (.val (cv w v))) : lv_has la nL (lcv w 0 ls) := by
  refine ⟨h1, h2, fun q hq => ?_⟩
  obtain ⟨k, v, e1, e2⟩ := lcv_has hq
  subst e2
  simpa using h k v e1
def vcat : V → Nat
  | .inl _ => 1
  | .inr (.inl _) => 2
  | .inr (.inr _) => 1
theorem cat_cv (w : Wd) (v : V) : (cv w v).category = vcat v := by
  rcases v with x | x | r <;> rfl
def kill : Option V → Option V
  | some (.inr (.inl _)) => none
  | a => a
/-- a value of one slot comes into place i -/
def lst : List (Option V) → Nat → V → List (Option V)
  | [], _, _ => []
  | _ :: t, 0, v => some v :: t
  | a :: t, i + 1, v => (if i = 0 then kill a else a) :: lst t i v
/-- a value of two slots comes into place i -/
def lst2 : List (Option V) → Nat → V → List (Option V)
  | [], _, _ => []
  | [_], 0, v => [some v]
  | _ :: _ :: t, 0, v => some v :: none :: t
  | a :: t, i + 1, v => (if i = 0 then kill a else a) :: lst2 t i v
theorem kill_some {a : Option V} {v : V} (h : kill a = some v) : a = some v ∧ vcat v = 1 := by
  rcases a with _ | x | x | r
  · cases h
  · cases h; exact ⟨rfl, rfl⟩
  · cases h
  · cases h; exact ⟨rfl, rfl⟩
theorem lst_at {ls : List (Option V)} {i k : Nat} {v u : V} (h : (lst ls i v)[k]? = some (some u)) : (k = i ∧ u = v) ∨ (k ≠ i ∧ ls[k]? = some (some u) ∧ (k + 1 = i → vcat u = 1)) := by
  induction ls generalizing i k with
  | nil => simp [lst] at h
  | cons a t ih =>
    cases i with
    | zero =>
      cases k with
      | zero => simp [lst] at h; exact Or.inl ⟨rfl, h.symm⟩
      | succ k => simp [lst] at h; exact Or.inr ⟨by omega, by simpa using h, by omega⟩
    | succ i =>
      cases k with
      | zero =>
        simp [lst] at h
        by_cases hi : i = 0
        · rw [if_pos hi] at h
          obtain ⟨h1, h2⟩ := kill_some h
          exact Or.inr ⟨by omega, by simp [h1], fun _ => h2⟩
        · rw [if_neg hi] at h
          exact Or.inr ⟨by omega, by simp [h], by omega⟩
      | succ k =>
        simp [lst] at h
        rcases ih h with ⟨e1, e2⟩ | ⟨e1, e2, e3⟩
        · exact Or.inl ⟨by omega, e2⟩
        · exact Or.inr ⟨by omega, by simpa using e2, fun e => e3 (by omega)⟩
theorem lst2_at {ls : List (Option V)} {i k : Nat} {v u : V} (h : (lst2 ls i v)[k]? = some (some u)) : (k = i ∧ u = v) ∨ (k ≠ i ∧ k ≠ i + 1 ∧ ls[k]? = some (some u) ∧ (k + 1 = i → vcat u = 1)) := by
  induction ls generalizing i k with
  | nil => simp [lst2] at h
  | cons a t ih =>
    cases i with
    | zero =>
      cases t with
      | nil =>
        cases k with
        | zero => simp [lst2] at h; exact Or.inl ⟨rfl, h.symm⟩
        | succ k => simp [lst2] at h
      | cons b t =>
        rcases k with _ | _ | k
        · simp [lst2] at h; exact Or.inl ⟨rfl, h.symm⟩
        · simp [lst2] at h
        · simp [lst2] at h; exact Or.inr ⟨by omega, by omega, by simpa using h, by omega⟩
    | succ i =>
      cases k with
      | zero =>
        simp [lst2] at h
        by_cases hi : i = 0
        · rw [if_pos hi] at h
          obtain ⟨h1, h2⟩ := kill_some h
          exact Or.inr ⟨by omega, by omega, by simp [h1], fun _ => h2⟩
        · rw [if_neg hi] at h
          exact Or.inr ⟨by omega, by omega, by simp [h], by omega⟩
      | succ k =>
        simp [lst2] at h
        rcases ih h with ⟨e1, e2⟩ | ⟨e1, e2, e3, e4⟩
        · exact Or.inl ⟨by omega, e2⟩
        · exact Or.inr ⟨by omega, by omega, by simpa using e3, fun e => e4 (by omega)⟩
theorem lv_st1 {w : Wd} {la la' : Array Slot} {nL i : Nat} {ls : List (Option V)} {v : V} (h : lv_has la nL (lcv w 0 ls)) (h' : lv_has la' nL ((i, cv w v) :: (lcv w 0 ls).filter (fun q => !(q.1 == i) && !(q.1 + 1 == i && q.2.category == 2)))) : lv_has la' nL (lcv w 0 (lst ls i v)) := by
  refine lv_mk h'.1 h'.2.1 fun k u hk => ?_
  rcases lst_at hk with ⟨e1, e2⟩ | ⟨e1, e2, e3⟩
  · subst e1; subst e2
    exact h'.2.2 _ List.mem_cons_self
  · have hm := lcv_mem (w := w) (i := 0) e2
    rw [Nat.zero_add] at hm
    refine h'.2.2 (k, cv w u) (List.mem_cons_of_mem _ (List.mem_filter.mpr ⟨hm, ?_⟩))
    simp only [cat_cv]
    by_cases hc : k + 1 = i
    · simp [e1, hc, e3 hc]
    · simp [e1, hc]
theorem lv_st2 {w : Wd} {la la' : Array Slot} {nL i : Nat} {ls : List (Option V)} {v : V} (h : lv_has la nL (lcv w 0 ls)) (h' : lv_has la' nL ((i, cv w v) :: (lcv w 0 ls).filter (fun q => !(q.1 == i) && (!(q.1 == i + 1) && !(q.1 + 1 == i && q.2.category == 2))))) : lv_has la' nL (lcv w 0 (lst2 ls i v)) := by
  refine lv_mk h'.1 h'.2.1 fun k u hk => ?_
  rcases lst2_at hk with ⟨e1, e2⟩ | ⟨e1, e2, e3, e4⟩
  · subst e1; subst e2
    exact h'.2.2 _ List.mem_cons_self
  · have hm := lcv_mem (w := w) (i := 0) e3
    rw [Nat.zero_add] at hm
    refine h'.2.2 (k, cv w u) (List.mem_cons_of_mem _ (List.mem_filter.mpr ⟨hm, ?_⟩))
    simp only [cat_cv]
    by_cases hc : k + 1 = i
    · simp [e1, e2, hc, e4 hc]
    · simp [e1, e2, hc]
theorem okL_of {ls : List (Option V)} (h : ∀ (k : Nat) (v : V), ls[k]? = some (some v) → okV v) : okL ls := by
  induction ls with
  | nil => trivial
  | cons a t ih =>
    cases a with
    | none => exact ih fun k v hk => h (k + 1) v (by simpa using hk)
    | some u => exact ⟨h 0 u rfl, ih fun k v hk => h (k + 1) v (by simpa using hk)⟩
theorem okL_lst {ls : List (Option V)} {i : Nat} {v : V} (h : okL ls) (hv : okV v) : okL (lst ls i v) := okL_of fun k u hk => by
  rcases lst_at hk with ⟨-, e⟩ | ⟨-, e, -⟩
  · rw [e]; exact hv
  · exact okL_at h e
theorem okL_lst2 {ls : List (Option V)} {i : Nat} {v : V} (h : okL ls) (hv : okV v) : okL (lst2 ls i v) := okL_of fun k u hk => by
  rcases lst2_at hk with ⟨-, e⟩ | ⟨-, -, e, -⟩
  · rw [e]; exact hv
  · exact okL_at h e
def msk : List Bool → List (Option V) → List (Option V)
  | [], _ => []
  | _, [] => []
  | true :: b, a :: t => a :: msk b t
  | false :: b, _ :: t => none :: msk b t
theorem msk_at {b : List Bool} {ls : List (Option V)} {k : Nat} {v : V} (h : (msk b ls)[k]? = some (some v)) : ls[k]? = some (some v) := by
  induction b generalizing ls k with
  | nil => simp [msk] at h
  | cons c b ih =>
    cases ls with
    | nil => cases c <;> simp [msk] at h
    | cons a t =>
      cases k with
      | zero => cases c <;> simp [msk] at h ⊢; exact h
      | succ k => cases c <;> simp [msk] at h ⊢ <;> exact ih h
