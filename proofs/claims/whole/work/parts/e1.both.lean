/-! both read the text at once: what holds between them -/
theorem wp_j {α β α' β' : Type} {x : Option α} {y : Option α'} {f : α → Option β} {g : α' → Option β'} {R : α → α' → Prop} {Q : β → β' → Prop} (h : Wp x (fun v => Wp y (fun w => R v w))) (k : ∀ v w, R v w → Wp (f v) (fun a => Wp (g w) (fun b => Q a b))) : Wp (x.bind f) (fun a => Wp (y.bind g) (fun b => Q a b)) := by
  obtain ⟨v, e, w, e2, r⟩ := h
  obtain ⟨a, e3, b, e4, q⟩ := k v w r
  exact wp_b e ⟨a, e3, wp_b e2 ⟨b, e4, q⟩⟩
theorem wp_r {β α' β' : Type} {x : Option β} {y : Option α'} {g : α' → Option β'} {w : α'} {Q : β → β' → Prop} (e : y = some w) (h : Wp x (fun a => Wp (g w) (fun b => Q a b))) : Wp x (fun a => Wp (y.bind g) (fun b => Q a b)) := wp_c h (fun _ k => wp_b e k)
theorem wp_rk {β β' : Type} {x : Option β} {a k : Nat} {y : Option β'} {Q : β → β' → Prop} (c : shK a = k) (h : Wp x (fun v => Wp y (fun b => Q v b))) : Wp x (fun v => Wp (if shK a = k then y else none) (fun b => Q v b)) := wp_c h (fun _ q => wp_k c q)
/-- the class ends here, with no or with yes -/
theorem wp_n0 {β : Type} {Q : Int × Mem → β → Prop} {y : Option β} {m : Mem} (h : Wp y (fun b => Q (0, m) b)) : Wp ((retZ 0).bind fun r => some (r, m)) (fun a => Wp y (fun b => Q a b)) := wp_b (v := 0) rfl (wp_some h)
theorem wp_n1 {β : Type} {Q : Int × Mem → β → Prop} {y : Option β} {m : Mem} (h : Wp y (fun b => Q (1, m) b)) : Wp ((retZ 1).bind fun r => some (r, m)) (fun a => Wp y (fun b => Q a b)) := wp_b (v := 1) rfl (wp_some h)
/-- what the class changes as it reads; what the reference changes -/
def CFr (D : Nat) (m0 m : Mem) : Prop := ∀ a j, ¬(a = 5 ∧ 1 ≤ j) → ¬(a = 6 ∧ (j = 2 ∨ j = 3 ∨ j = 4)) → ¬(8 ≤ a ∧ a ≤ 10) → ¬(D ≤ a ∧ a ≤ D + 28) → m a j = m0 a j
def inBk (B a j : Nat) : Prop := ((a = 266 ∨ a = 267 ∨ a = 271 ∨ a = 272 ∨ a = 273 ∨ a = 275 ∨ (280 ≤ a ∧ a ≤ 286)) ∧ j = B) ∨ ((268 ≤ a ∧ a ≤ 270) ∧ 42 * B ≤ j ∧ j < 42 * B + 42) ∨ ((a = 274 ∨ a = 289) ∧ 5 * B ≤ j ∧ j < 5 * B + 5) ∨ ((276 ≤ a ∧ a ≤ 278 ∨ a = 290) ∧ 10 * B ≤ j ∧ j < 10 * B + 10) ∨ (a = 279 ∧ 12 * B ≤ j ∧ j < 12 * B + 12) ∨ ((a = 287 ∨ a = 288) ∧ 1600 * B ≤ j ∧ j < 1600 * B + 1600)
def mayR (a j : Nat) : Prop := a = 264 ∧ (3 ≤ j ∧ j ≤ 12 ∨ j = 39 ∨ j = 44 ∨ j = 45 ∨ j = 47 ∨ j = 48)
def RF (B : Nat) (n0 n : Mem) : Prop := ∀ a j, ¬mayR a j → ¬(291 ≤ a ∧ a ≤ 294) → ¬inBk B a j → n a j = n0 a j
theorem cf_refl (D : Nat) (m : Mem) : CFr D m m := fun _ _ _ _ _ _ => rfl
theorem rf_refl (B : Nat) (m : Mem) : RF B m m := fun _ _ _ _ _ => rfl
theorem cf_up {D : Nat} {m0 m m2 : Mem} (h : CFr D m0 m) (g : ∀ a j, ¬(a = 5 ∧ 1 ≤ j) → ¬(D ≤ a ∧ a ≤ D + 28) → m2 a j = m a j) : CFr D m0 m2 := fun a j h1 h2 h3 h4 => by rw [g a j h1 h4, h a j h1 h2 h3 h4]
theorem rf_up {B : Nat} {n0 n n2 : Mem} (h : RF B n0 n) (g : ∀ a j, ¬mayR a j → ¬(291 ≤ a ∧ a ≤ 294) → ¬inBk B a j → n2 a j = n a j) : RF B n0 n2 := fun a j h1 h2 h3 => by rw [g a j h1 h2 h3, h a j h1 h2 h3]
/-- the reference's bank under way -/
def RW (n : Mem) (B : Nat) (I : Isl) (l : Lnd) : Prop := IB n B I l ∧ (∀ c : Nat, c < 42 → n 268 (42 * B + c) = I 3 c) ∧ (∀ t : Nat, t < nT I → n 276 (10 * B + t) = I 11 t ∧ n 277 (10 * B + t) = I 10 t) ∧ (∀ h : Nat, h < 12 → n 279 (12 * B + h) = I 15 ((h : Int) + 1)) ∧ (n 284 B = I 17 0 ∧ n 285 B = I 18 0 ∧ n 286 B = I 19 0) ∧ n 271 B = sumTo (fun j => l 0 j) 42 ∧ MN n B I ∧ (SM n B 280 281 (I 22) (nD I) ∧ (¬n 280 B = -1 → n 280 B + nD I ≤ n 264 39)) ∧ (SM n B 282 283 (I 24) (nR I) ∧ (¬n 282 B = -1 → n 282 B + nR I ≤ n 264 39)) ∧ n 264 39 = ((nD I + nR I : Nat) : Int)
theorem rw_off {n n2 : Mem} {B : Nat} {I : Isl} {l : Lnd} (h : RW n B I l) (e39 : n2 264 39 = n 264 39) (e40 : n2 264 40 = n 264 40) (o : ∀ a, 266 ≤ a → a ≤ 290 → n2 a = n a) : RW n2 B I l := by
  unfold RW IB MN SM CdM at h ⊢
  rw [e39, e40, o 266 (by decide) (by decide), o 267 (by decide) (by decide), o 268 (by decide) (by decide), o 269 (by decide) (by decide), o 270 (by decide) (by decide), o 271 (by decide) (by decide), o 272 (by decide) (by decide), o 273 (by decide) (by decide), o 274 (by decide) (by decide), o 275 (by decide) (by decide), o 276 (by decide) (by decide), o 277 (by decide) (by decide), o 278 (by decide) (by decide), o 279 (by decide) (by decide), o 280 (by decide) (by decide), o 281 (by decide) (by decide), o 282 (by decide) (by decide), o 283 (by decide) (by decide), o 284 (by decide) (by decide), o 285 (by decide) (by decide), o 286 (by decide) (by decide), o 287 (by decide) (by decide), o 288 (by decide) (by decide), o 289 (by decide) (by decide), o 290 (by decide) (by decide)]
  exact h
/-- what is told lies apart -/
def Ap (I : Isl) (l : Lnd) : Prop := (∀ t : Nat, t < nT I → (0 ≤ l 1 t ∧ l 1 t < nC I) ∧ ¬I 4 (l 1 t) = 1 ∧ fnd (I 7) (l 1 t) (nK I) = -1 ∧ ∀ u : Nat, u < nT I → l 1 u = l 1 t → u = t) ∧ (∀ c : Int, 0 ≤ c → c < 42 → l 0 c = 0 ∨ l 0 c = 1) ∧ ∀ c : Int, nC I ≤ c → c < 42 → l 0 c = 0
def GW (I : Isl) (l : Lnd) : Prop := Sz I ∧ (2 ≤ I 0 0 ∧ 2 ≤ I 1 0) ∧ Cn I ∧ Kc I ∧ Vl I ∧ Cl I ∧ Cm I ∧ Ap I l ∧ (0 ≤ I 17 0 ∧ I 17 0 ≤ 999) ∧ (∀ k : Int, 0 ≤ k → k < 5 → l 2 k = 0) ∧ l 3 0 = 0 ∧ (sumTo (fun j => l 0 j) 42 ≤ 12 ∧ sumTo (fun j => I 4 j) 42 ≤ 6)
def JS (D B : Nat) (m0 n0 m n : Mem) (I : Isl) (l : Lnd) : Prop := PS m D I ∧ LD m (D + 12) l ∧ RW n B I l ∧ GW I l ∧ CFr D m0 m ∧ RF B n0 n
def JP (T : Nat → Int) (len K : Nat) (m n : Mem) (a : Nat) : Prop := Refs m ∧ Refs n ∧ RP m T len K a ∧ RS n T len a
/-- the same fault is told -/
def FL (m n : Mem) : Prop := ∃ f p : Int, 0 < f ∧ m 5 9 = f ∧ m 5 10 = p ∧ n 264 8 = f ∧ n 264 9 = p
def JF (D B : Nat) (m0 n0 m n : Mem) : Prop := FL m n ∧ Refs m ∧ Refs n ∧ CFr D m0 m ∧ RF B n0 n
theorem ps_D {m : Mem} {D : Nat} {I : Isl} (h : PS m D I) : D = 11 ∨ D = 40 := h.1.1
theorem js_off {D B : Nat} {m0 n0 m n m2 n2 : Mem} {I : Isl} {l : Lnd} (h : JS D B m0 n0 m n I l) (f : ∀ a, ¬a = 5 → m2 a = m a) (f5 : ∀ j, ¬1 ≤ j → m2 5 j = m 5 j) (g : ∀ a, ¬a = 264 → n2 a = n a) (g2 : ∀ j, ¬(3 ≤ j ∧ j ≤ 12) → n2 264 j = n 264 j) : JS D B m0 n0 m2 n2 I l := by
  obtain ⟨⟨p1, p2, p3⟩, ld, rw', gw, cf, rf⟩ := h
  have hD := p1.1
  refine ⟨⟨pd_off p1 fun a a1 _ _ _ _ => f a (by omega), sd_off p2 (fun q q1 q2 => f q (by omega)), sd_off p3 (fun q q1 q2 => f q (by omega))⟩, ld_off ld fun a a1 _ => f a (by omega), rw_off rw' (g2 39 (by omega)) (g2 40 (by omega)) (fun a a1 _ => g a (by omega)), gw, cf_up cf fun a j h1 h2 => ?_, rf_up rf fun a j h1 h2 h3 => ?_⟩
  · by_cases q : a = 5
    · rw [q]; exact f5 j (fun u => h1 ⟨q, u⟩)
    · rw [f a q]
  · by_cases q : a = 264
    · rw [q]; exact g2 j (fun u => h1 ⟨q, Or.inl u⟩)
    · rw [g a q]
theorem js_mv {D B : Nat} {m0 n0 m n m2 n2 : Mem} {I : Isl} {l : Lnd} {J : Nat → Prop} (hJ : ∀ j, J j → 1 ≤ j) (h : JS D B m0 n0 m n I l) (f : ReF J m m2) (g : AhF n n2) : JS D B m0 n0 m2 n2 I l := js_off h f.1 (fun j u => f.2 j (fun v => u (hJ j v))) g.1 (fun j u => g.2 j (by omega))
theorem bl_ne {m : Mem} {k p : Int} {a : Nat} (h : ¬a = 264) : Bl m k p a = m a := by
  unfold Bl
  rw [up_setA (up m 264 8 k), setA_ne h, up_setA, setA_ne h]
theorem bl_at {m : Mem} {k p : Int} {j : Nat} (h : ¬(j = 8 ∨ j = 9)) : Bl m k p 264 j = m 264 j := by
  unfold Bl
  rw [up_at, if_neg (by omega), up_at, if_neg (by omega)]
theorem bl_8 (m : Mem) (k p : Int) : Bl m k p 264 8 = k ∧ Bl m k p 264 9 = p := by
  unfold Bl
  exact ⟨by rw [up_slot (by decide), up_same], by rw [up_same]⟩
theorem js_tf {D B : Nat} {m0 n0 m n m2 n2 : Mem} {I : Isl} {l : Lnd} {f p : Int} (h : JS D B m0 n0 m n I l) (t : Told m m2 f p) (g : FtM n n2 f p) : JS D B m0 n0 m2 n2 I l := by
  obtain ⟨n1, a, e⟩ := g
  subst e
  exact js_off h t.2.2.1 (fun j u => t.2.2.2 j (fun v => u v.1)) (fun a' ha => by rw [bl_ne ha]; exact a.1 a' ha) (fun j u => by rw [bl_at (by omega)]; exact a.2 j (by omega))
theorem fl_tf {m n m2 n2 : Mem} {f p : Int} (hf : 0 < f) (t : Told m m2 f p) (g : FtM n n2 f p) : FL m2 n2 := by
  obtain ⟨n1, a, e⟩ := g
  subst e
  exact ⟨f, p, hf, t.1, t.2.1, (bl_8 _ _ _).1, (bl_8 _ _ _).2⟩
theorem ft_refs {n n2 : Mem} {f p : Int} (r : Refs n) (g : FtM n n2 f p) : Refs n2 := by
  obtain ⟨n1, a, e⟩ := g
  subst e
  exact bl_refs (ahf_refs a r) _ _
theorem told_refs {m m2 : Mem} {f p : Int} (r : Refs m) (t : Told m m2 f p) : Refs m2 := ref_refs (fun j h => by omega) t.2.2 r
theorem jf_of {D B : Nat} {m0 n0 m n : Mem} {I : Isl} {l : Lnd} (h : JS D B m0 n0 m n I l) (f : FL m n) (r : Refs m) (r2 : Refs n) : JF D B m0 n0 m n := ⟨f, r, r2, h.2.2.2.2.1, h.2.2.2.2.2⟩
theorem fl_fs {m n : Mem} (h : FL m n) : FS n := by
  obtain ⟨f, p, hf, _, _, e, _⟩ := h
  show 0 < n 264 8
  omega
