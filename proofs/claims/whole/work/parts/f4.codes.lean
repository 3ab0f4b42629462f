/-! a sum under way: what holds between class and reference -/
variable {T : Nat → Int} {len K D B S So p p2 ko f0 : Nat} {co : Int → Int} {s : Int} {m0 n0 : Mem} {I : Isl} {l : Lnd}
/-- the bank but for the sums -/
def RW0 (n : Mem) (B : Nat) (I : Isl) (l : Lnd) : Prop := IB n B I l ∧ (∀ c : Nat, c < 42 → n 268 (42 * B + c) = I 3 c) ∧ (∀ t : Nat, t < nT I → n 276 (10 * B + t) = I 11 t ∧ n 277 (10 * B + t) = I 10 t) ∧ (∀ h : Nat, h < 12 → n 279 (12 * B + h) = I 15 ((h : Int) + 1)) ∧ (n 284 B = I 17 0 ∧ n 285 B = I 18 0 ∧ n 286 B = I 19 0) ∧ n 271 B = sumTo (fun j => l 0 j) 42 ∧ MN n B I
theorem rw0_off {n n2 : Mem} {B : Nat} {I : Isl} {l : Lnd} (h : RW0 n B I l) (e40 : n2 264 40 = n 264 40) (o : ∀ a, 266 ≤ a → a ≤ 290 → ¬(280 ≤ a ∧ a ≤ 283) → ¬(a = 287 ∨ a = 288) → n2 a = n a) : RW0 n2 B I l := by
  unfold RW0 IB MN at h ⊢
  rw [e40, o 266 (by decide) (by decide) (by decide) (by decide), o 267 (by decide) (by decide) (by decide) (by decide), o 268 (by decide) (by decide) (by decide) (by decide), o 269 (by decide) (by decide) (by decide) (by decide), o 270 (by decide) (by decide) (by decide) (by decide), o 271 (by decide) (by decide) (by decide) (by decide), o 272 (by decide) (by decide) (by decide) (by decide), o 273 (by decide) (by decide) (by decide) (by decide), o 274 (by decide) (by decide) (by decide) (by decide), o 275 (by decide) (by decide) (by decide) (by decide), o 276 (by decide) (by decide) (by decide) (by decide), o 277 (by decide) (by decide) (by decide) (by decide), o 278 (by decide) (by decide) (by decide) (by decide), o 279 (by decide) (by decide) (by decide) (by decide), o 284 (by decide) (by decide) (by decide) (by decide), o 285 (by decide) (by decide) (by decide) (by decide), o 286 (by decide) (by decide) (by decide) (by decide), o 289 (by decide) (by decide) (by decide) (by decide), o 290 (by decide) (by decide) (by decide) (by decide)]
  exact h
/-- S: the class's sums; the one that is read is 1 - So, So the other -/
def SC (D S So p p2 : Nat) : Prop := (D = 11 ∨ D = 40) ∧ S = D + 23 ∧ ((So = 1 ∧ p = 282 ∧ p2 = 283) ∨ (So = 0 ∧ p = 280 ∧ p2 = 281))
/-- the other sum -/
def Oth (n : Mem) (B p p2 : Nat) (co : Int → Int) (ko f0 : Nat) : Prop := (SM n B p p2 co ko ∧ (¬n p B = -1 → n p B + ko ≤ (f0 : Int))) ∧ n (562 - p) B = (f0 : Int)
theorem oth_off {n n2 : Mem} (h : Oth n B p p2 co ko f0) (e1 : n2 p B = n p B) (e2 : n2 p2 B = n p2 B) (e3 : n2 (562 - p) B = n (562 - p) B) (o : ∀ x, x < 1600 * B + f0 → n2 287 x = n 287 x ∧ n2 288 x = n 288 x) : Oth n2 B p p2 co ko f0 := by
  obtain ⟨⟨sm, lt⟩, ow⟩ := h
  refine ⟨⟨?_, by rw [e1]; exact lt⟩, by rw [e3]; exact ow⟩
  rcases sm with ⟨h1, h2⟩ | ⟨h1, h2, h3, h4, h5, h6⟩
  · exact Or.inl ⟨by rw [e1]; exact h1, h2⟩
  · have lt := lt h1
    refine Or.inr ⟨by rw [e1]; exact h1, h2, by rw [e1, e2]; exact h3, by rw [e1]; exact h4, by rw [e1]; exact h5, fun i i0 i1 => ?_⟩
    obtain ⟨g1, g2⟩ := h6 i i0 i1
    obtain ⟨q1, q2⟩ := o (1600 * B + (n p B + i).toNat) (by omega)
    rw [e1, q1, q2]
    exact ⟨g1, g2⟩
/-- codes that both have -/
def CN (m n : Mem) (B S f0 R : Nat) : Prop := n 264 39 = ((f0 + R : Nat) : Int) ∧ ∀ i : Nat, i < R → n 287 (1600 * B + f0 + i) = cdS (m (S + 1) (f0 + i)) ∧ (0 ≤ m (S + 1) (f0 + i) → n 288 (1600 * B + f0 + i) = m (S + 1) (f0 + i))
abbrev cM (m : Mem) (S f0 : Nat) : Int → Int := fun i => m (S + 1) (f0 + i.toNat)
/-- the class's sum under way: it began at f0 and has k codes -/
def LnS (m : Mem) (S So f0 k : Nat) : Prop := m S 1 = ((f0 + k : Nat) : Int) ∧ m S 2 = ((1 - So : Nat) : Int) ∧ m (S + 2) (1 - So) = (f0 : Int) ∧ m (S + 3) (1 - So) = ((f0 + k : Nat) : Int) ∧ m (S + 3) So ≤ (f0 : Int)
theorem lns_off {m m2 : Mem} {S So f0 k : Nat} (h : LnS m S So f0 k) (q : ∀ a, S ≤ a → a ≤ S + 3 → m2 a = m a) : LnS m2 S So f0 k := by
  unfold LnS at h ⊢
  rw [q S (by omega) (by omega), q (S + 2) (by omega) (by omega), q (S + 3) (by omega) (by omega)]
  exact h
/-- what stays as the class adds a code -/
def SdF (m m2 : Mem) (S So f0 : Nat) : Prop := (∀ j, j < f0 → m2 (S + 1) j = m (S + 1) j) ∧ m2 (S + 2) = m (S + 2) ∧ (∀ j, ¬j = 1 - So → m2 (S + 3) j = m (S + 3) j) ∧ ∀ b, ¬b = S → ¬b = S + 1 → ¬b = S + 3 → m2 b = m b
theorem sd_add {m m2 : Mem} {S So f0 k ko : Nat} {co : Int → Int} (h : SD m S So co ko) (l1 : LnS m S So f0 k) (l2 : LnS m2 S So f0 (k + 1)) (o : SdF m m2 S So f0) (hw : So < 2) (c : f0 + k < 1600) : SD m2 S So co ko := by
  obtain ⟨h1, h2, lq, f, ⟨h3, h3'⟩, h4, h5, h6⟩ := h
  obtain ⟨a1, a2, a3, a4, a5⟩ := l1
  obtain ⟨b1, b2, b3, b4, b5⟩ := l2
  obtain ⟨o1, o2, o3, o4⟩ := o
  have e3 : m2 (S + 3) So = m (S + 3) So := o3 So (by omega)
  refine ⟨h1, h2, ?_, f, ⟨by rw [b1]; omega, by rw [b1]; omega⟩, by rw [o2]; exact h4, by rw [e3]; exact h5, fun i i0 i1 => ?_⟩
  · unfold Lq at lq ⊢
    rw [o2]
    rcases (by omega : So = 0 ∨ So = 1) with e | e
    · subst e
      have x1 : m2 (S + 3) 1 = ((f0 + (k + 1) : Nat) : Int) := b4
      have x2 : m (S + 3) 1 = ((f0 + k : Nat) : Int) := a4
      rw [e3, x1, b1]
      omega
    · subst e
      have x1 : m2 (S + 3) 0 = ((f0 + (k + 1) : Nat) : Int) := b4
      have x2 : m (S + 3) 0 = ((f0 + k : Nat) : Int) := a4
      rw [e3, x1, b1]
      omega
  · rw [o1 _ (by omega)]
    exact h6 i i0 i1
/-- codes well formed so far -/
def WFp (c : Int → Int) (k : Nat) : Prop := (∀ i : Nat, i < k → c i < -10 → 2 ≤ dpt c i) ∧ (∀ i : Nat, i ≤ k → 0 ≤ dpt c i ∧ dpt c i ≤ 63) ∧ ∀ i : Nat, i < k → -10 ≤ c i ∧ c i ≤ 9999 ∨ isOp (c i)
theorem dpt_same {c c2 : Int → Int} : ∀ k : Nat, (∀ i : Nat, i < k → c2 i = c i) → dpt c2 k = dpt c k := by
  intro k
  induction k with
  | zero => intro _; rfl
  | succ k ih =>
    intro h
    show (if c2 k < -10 then dpt c2 k - 1 else dpt c2 k + 1) = if c k < -10 then dpt c k - 1 else dpt c k + 1
    rw [ih (fun i hi => h i (by omega)), h k (by omega)]
theorem wfp_add {c c2 : Int → Int} {k : Nat} {v : Int} (w : WFp c k) (h : ∀ i : Nat, i < k → c2 i = c i) (e : c2 k = v) (ok : (-10 ≤ v ∧ v ≤ 9999 ∧ dpt c k ≤ 62) ∨ (isOp v ∧ 2 ≤ dpt c k)) : WFp c2 (k + 1) ∧ dpt c2 (k + 1) = if v < -10 then dpt c k - 1 else dpt c k + 1 := by
  obtain ⟨w1, w2, w3⟩ := w
  have d : ∀ j : Nat, j ≤ k → dpt c2 j = dpt c j := fun j hj => dpt_same j (fun i hi => h i (by omega))
  have dk : dpt c2 (k + 1) = if v < -10 then dpt c k - 1 else dpt c k + 1 := by
    show (if c2 k < -10 then dpt c2 k - 1 else dpt c2 k + 1) = _
    rw [e, d k (Nat.le_refl _)]
  have b := w2 k (Nat.le_refl _)
  have op : isOp v → v < -10 := fun u => by unfold isOp at u; omega
  refine ⟨⟨fun i hi hc => ?_, fun i hi => ?_, fun i hi => ?_⟩, dk⟩
  · rw [d i (by omega)]
    by_cases q : i = k
    · subst q
      rw [e] at hc
      rcases ok with o | o
      · omega
      · exact o.2
    · rw [h i (by omega)] at hc; exact w1 i (by omega) hc
  · by_cases q : i = k + 1
    · rw [q, dk]
      rcases ok with o | o
      · rw [if_neg (by omega)]; omega
      · rw [if_pos (op o.1)]; omega
    · rw [d i (by omega)]; exact w2 i (by omega)
  · by_cases q : i = k
    · subst q
      rw [e]
      rcases ok with o | o
      · exact Or.inl ⟨o.1, o.2.1⟩
      · exact Or.inr o.1
    · rw [h i (by omega)]; exact w3 i (by omega)
/-- what stays while a sum is read -/
def MQs (T : Nat → Int) (len K D B S So p p2 : Nat) (co : Int → Int) (ko f0 : Nat) (s : Int) (m0 n0 : Mem) (I : Isl) (l : Lnd) (m n : Mem) : Prop := Refs m ∧ Refs n ∧ SC D S So p p2 ∧ (PD m D I ∧ LD m (D + 12) l ∧ SD m S So co ko) ∧ RW0 n B I l ∧ Oth n B p p2 co ko f0 ∧ CFr D m0 m ∧ RF B n0 n ∧ m 5 11 = s
def MS (T : Nat → Int) (len K D B S So p p2 : Nat) (co : Int → Int) (ko f0 : Nat) (s : Int) (m0 n0 : Mem) (I : Isl) (l : Lnd) (m n : Mem) (a k R e : Nat) : Prop := MQs T len K D B S So p p2 co ko f0 s m0 n0 I l m n ∧ (RP m T len K a ∧ RS n T len a) ∧ LnS m S So f0 k ∧ CN m n B S f0 R ∧ (f0 + k + e ≤ a ∧ R ≤ k) ∧ WFp (cM m S f0) k
theorem sc_S (h : SC D S So p p2) : (S = 34 ∨ S = 63) ∧ D ≤ S ∧ S + 4 ≤ D + 28 ∧ 23 ≤ S - D ∧ S = D + 23 ∧ So < 2 ∧ 280 ≤ p := by
  obtain ⟨hD, h⟩ := h
  omega
/-- the class adds a code -/
theorem x_addC {m : Mem} (r : Refs m) (hS : S = 34 ∨ S = 63) (hw : So < 2) {k : Nat} (e : LnS m S So f0 k) (hk : f0 + k < 1600) (v : Int) : ∃ m2, X7_add S v m = some (1, m2) ∧ LnS m2 S So f0 (k + 1) ∧ m2 (S + 1) (f0 + k) = v ∧ (∀ i, ¬i = k → m2 (S + 1) (f0 + i) = m (S + 1) (f0 + i)) ∧ SdF m m2 S So f0 ∧ Refs m2 := by
  obtain ⟨c1, c2, c3, c4, c5, c6, ⟨c7, c8⟩, c9, c10⟩ := sd_c hS
  obtain ⟨a1, a2, a3, a4, a5⟩ := e
  have gi1 : ∀ mm : Mem, getI 7 1 S mm = some (mm S 1) := fun mm => by unfold getI; rw [if_pos ⟨c1, by omega⟩]
  have gi2 : ∀ mm : Mem, getI 7 2 S mm = some (mm S 2) := fun mm => by unfold getI; rw [if_pos ⟨c1, by omega⟩]
  obtain ⟨ma, hma⟩ : ∃ x, x = up m (S + 1) (f0 + k) v := ⟨_, rfl⟩
  obtain ⟨mb, hmb⟩ : ∃ x, x = up ma S 1 ((f0 + (k + 1) : Nat) : Int) := ⟨_, rfl⟩
  obtain ⟨mc, hmc⟩ : ∃ x, x = up mb (S + 3) (1 - So) ((f0 + (k + 1) : Nat) : Int) := ⟨_, rfl⟩
  have ra : Refs ma := by rw [hma]; exact refs_arr r (by rw [c3]; rfl) _ _
  have rb : Refs mb := by rw [hmb]; exact refs_up ra (by rcases hS with e | e <;> subst e <;> decide +kernel) _
  have rc' : Refs mc := by rw [hmc]; exact refs_arr rb (by rw [c9]; rfl) _ _
  have aS : ma S = m S := by rw [hma, up_ne (by omega)]
  have bS : mb S 1 = ((f0 + (k + 1) : Nat) : Int) := by rw [hmb, up_same]
  have bS2 : mb S 2 = ((1 - So : Nat) : Int) := by rw [hmb, up_slot (by decide), aS]; exact a2
  have cS : mc S = mb S := by rw [hmc, up_ne (by omega)]
  have c1' : mc (S + 1) = ma (S + 1) := by rw [hmc, up_ne (by omega), hmb, up_ne (by omega)]
  have c2' : mc (S + 2) = m (S + 2) := by rw [hmc, up_ne (by omega), hmb, up_ne (by omega), hma, up_ne (by omega)]
  have c3' : ∀ j, ¬j = 1 - So → mc (S + 3) j = m (S + 3) j := fun j hj => by rw [hmc, up_at, if_neg hj, hmb, up_ne (by omega), hma, up_ne (by omega)]
  refine ⟨mc, ?_, ⟨by rw [cS]; exact bS, by rw [cS]; exact bS2, by rw [c2']; exact a3, by rw [hmc, up_same], by rw [c3' So (by omega)]; exact a5⟩, by rw [c1', hma, up_same], fun i hi => by rw [c1', hma, up_at, if_neg (by omega)], ⟨fun j hj => by rw [c1', hma, up_at, if_neg (by omega)], c2', c3', fun b h1 h2 h3 => by rw [hmc, up_ne h3, hmb, up_ne h1, hma, up_ne h2]⟩, rc'⟩
  refine wp_eq ?_
  unfold X7_add
  refine wp_k c1 ?_
  refine wp_b (gi1 m) ?_
  refine wp_b (sd_R r hS).1 ?_
  refine wp_b (ar_len c3 c4) ?_
  rw [a1, if_neg (by omega)]
  refine wp_b (sd_R r hS).1 ?_
  refine wp_b (gi1 m) ?_
  rw [a1]
  refine wp_b (ar_st c3 c4 (by omega) (by omega) (by omega) v m) ?_
  rw [← up_setA, Int.toNat_natCast, ← hma]
  refine wp_b (gi1 ma) ?_
  rw [aS, a1, show wI (((f0 + k : Nat) : Int) + 1) = ((f0 + (k + 1) : Nat) : Int) from by rw [wI_of2 (by omega) (by omega)]; omega]
  refine wp_b (show putI 7 1 S ((f0 + (k + 1) : Nat) : Int) ma = some mb from by rw [hmb]; exact if_pos ⟨c1, by omega⟩) ?_
  refine wp_b (sd_R rb hS).2.2.2 ?_
  refine wp_b (gi2 mb) ?_
  refine wp_b (gi1 mb) ?_
  rw [bS2, bS]
  refine wp_b (ar_st c9 c10 (by omega) (by omega) (by omega) _ mb) ?_
  rw [← up_setA, Int.toNat_natCast, ← hmc]
  refine wp_b (v := 1) rfl ?_
  exact wp_some rfl
/-- the reference adds a code -/
def addM (n : Mem) (B x : Nat) (sort v : Int) : Mem := up (up (up n 287 (1600 * B + x) sort) 288 (1600 * B + x) v) 264 39 ((x + 1 : Nat) : Int)
theorem m_addC {n : Mem} (r : Refs n) (hB : B = 0 ∨ B = 1) (i40 : n 264 40 = (B : Int)) {x : Nat} (e : n 264 39 = (x : Int)) (hx : x < 1600) (sort v : Int) : X11_add 264 sort v n = some (addM n B x sort v) := by
  refine wp_eq ?_
  unfold X11_add
  refine wp_k k264 ?_
  refine wp_b (gR35 r) ?_
  refine wp_b (g264 (by decide)) ?_
  refine wp_b (g264 (by decide)) ?_
  rw [i40, e]
  refine wp_b (wst (K := 1600) (B := B) (len := 1600) (n := 3200) (by decide +kernel) (by omega) (by decide) (by omega) (by omega) sort n) ?_
  rw [Int.toNat_natCast]
  have r2 : Refs (up n 287 (1600 * B + x) sort) := refs_arr r (by decide +kernel) _ _
  refine wp_b (gR36 r2) ?_
  refine wp_b (g264 (by decide)) ?_
  refine wp_b (g264 (by decide)) ?_
  rw [up_ne (show ¬264 = 287 from by decide), i40, e]
  refine wp_b (wst (K := 1600) (B := B) (len := 1600) (n := 3200) (by decide +kernel) (by omega) (by decide) (by omega) (by omega) v _) ?_
  rw [Int.toNat_natCast]
  refine wp_b (g264 (by decide)) ?_
  rw [up_ne (show ¬264 = 288 from by decide), up_ne (show ¬264 = 287 from by decide), e, wI_of2 (x := (x : Int) + 1) (by omega) (by omega)]
  refine wp_b (p264 (by decide) _ _) ?_
  refine wp_some ?_
  unfold addM
  rw [show ((x + 1 : Nat) : Int) = (x : Int) + 1 from by omega]
theorem addM_o (n : Mem) (B x : Nat) (sort v : Int) : (∀ b, ¬b = 264 → ¬b = 287 → ¬b = 288 → addM n B x sort v b = n b) ∧ (∀ j, ¬j = 39 → addM n B x sort v 264 j = n 264 j) ∧ addM n B x sort v 264 39 = ((x + 1 : Nat) : Int) ∧ (∀ y, addM n B x sort v 287 y = if y = 1600 * B + x then sort else n 287 y) ∧ ∀ y, addM n B x sort v 288 y = if y = 1600 * B + x then v else n 288 y := by
  unfold addM
  refine ⟨fun b h1 h2 h3 => by rw [up_ne h1, up_ne h3, up_ne h2], fun j hj => by rw [up_at, if_neg hj, up_ne (by decide), up_ne (by decide)], up_same _ _ _ _, fun y => by rw [up_ne (by decide), up_ne (by decide), up_at], fun y => by rw [up_ne (by decide), up_at, up_ne (by decide)]⟩
theorem addM_r {n : Mem} (r : Refs n) (B x : Nat) (sort v : Int) : Refs (addM n B x sort v) := refs_up (refs_arr (refs_arr r (by decide +kernel) _ _) (by decide +kernel) _ _) (by decide +kernel) _
