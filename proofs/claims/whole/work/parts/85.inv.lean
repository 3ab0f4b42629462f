/-! the relation that every call keeps -/
/-- letters (1 .. 26) of a name, packed by five bits and by eight -/
def pk5 (L : List Nat) : Nat := (L ++ List.replicate (6 - L.length) 0).foldl (fun a c => a * 32 + c) 0
def pk8 (L : List Nat) : Nat := L.foldl (fun a c => a * 256 + (c + 96)) 0
def Nm (x y : Int) : Prop := ∃ L : List Nat, 1 ≤ L.length ∧ L.length ≤ 6 ∧ (∀ c ∈ L, 1 ≤ c ∧ c ≤ 26) ∧ x = (pk5 L : Int) ∧ y = (pk8 L : Int)
def MN (m : Mem) (b : Nat) (I : Isl) : Prop := m 272 b = sumTo (fun j => I 4 j) 42 ∧ (∀ k : Nat, k < nK I → Nm (I 8 k) (m 289 (5 * b + k))) ∧ ∀ t : Nat, t < nT I → I 11 t = 0 → Nm (I 14 (clTo I t)) (m 290 (10 * b + t))
/-- what no act moves lies apart -/
def Fx (I : Isl) : Prop := ∀ t : Nat, t < nT I → ¬I 11 t = 0 → (0 ≤ I 21 t ∧ I 21 t < nC I) ∧ ¬I 4 (I 21 t) = 1 ∧ fnd (I 7) (I 21 t) (nK I) = -1 ∧ ∀ u : Nat, u < nT I → ¬I 11 u = 0 → I 21 u = I 21 t → u = t
def Cm (I : Isl) : Prop := 0 ≤ I 18 0 ∧ I 18 0 ≤ 100 ∧ 1 ≤ I 19 0 ∧ I 19 0 ≤ 20
def Gd (I : Isl) : Prop := Sz I ∧ Cn I ∧ Kc I ∧ Vl I ∧ Cl I ∧ Fx I ∧ Cm I
/-- a thing put elsewhere -/
def mvL (l : Lnd) (t c : Int) : Lnd := fun k i => if k = 1 ∧ i = t then c else l k i
/-- how much more the fullest has than the emptiest; what all have -/
def mxTo (f : Int → Int) : Nat → Int
  | 0 => f 0
  | n + 1 => max (mxTo f n) (f ((n : Int) + 1))
def mnTo (f : Int → Int) : Nat → Int
  | 0 => f 0
  | n + 1 => min (mnTo f n) (f ((n : Int) + 1))
def sprd (I : Isl) (l : Lnd) : Int := mxTo (fun k => cms I l (I 15) k) (nK I - 1) - mnTo (fun k => cms I l (I 15) k) (nK I - 1)
def allC (I : Isl) (l : Lnd) : Int := pouS (fun k => cms I l (I 15) k) (nK I)
/-- what is best so far: by, all, the two cells; by is -1 ahead of the first -/
abbrev Bst : Type := Int × Int × Int × Int
def cmpB (I : Isl) (l : Lnd) (a b : Int) (z : Bst) : Bst := if z.1 = -1 ∨ sprd I l < z.1 ∨ sprd I l = z.1 ∧ z.2.1 < allC I l then (sprd I l, allC I l, a, b) else z
/-- whether a cloth can hang in a cell -/
def cnH (I : Isl) (l : Lnd) (t c : Int) : Prop := l 1 t = c ∨ isF I l c = 1
/-- the second cloth is tried in the first cells -/
def al2 (I : Isl) (l : Lnd) (x : Int) (z : Bst) : Nat → Bst
  | 0 => z
  | y + 1 => if ¬(y : Int) = x ∧ (l 1 (I 13 1) = (y : Int) ∨ isF I l y = 1) then cmpB I (mvL (mvL l (I 13 0) x) (I 13 1) y) x y (al2 I l x z y) else al2 I l x z y
def al1 (I : Isl) (l : Lnd) (n : Int) : Nat → Bst
  | 0 => (-1, 0, 0, 0)
  | x + 1 => if l 1 (I 13 0) = (x : Int) ∨ isF I l x = 1 then (if n = 1 then cmpB I (mvL l (I 13 0) x) x 0 (al1 I l n x) else al2 I l x (al1 I l n x) (nC I).toNat) else al1 I l n x
def alk (I : Isl) (l : Lnd) (n : Int) : Bst := al1 I l n (nC I).toNat
def HG (m : Mem) (I : Isl) (l : Lnd) : Prop := m 250 0 = 0 ∨ ((m 250 0 = 1 ∨ m 250 0 = 2) ∧ m 250 0 ≤ I 12 0 ∧ 0 < I 6 0 ∧ m 250 8 = (alk I l (m 250 0)).1 ∧ m 250 9 = (alk I l (m 250 0)).2.1 ∧ m 257 0 = (alk I l (m 250 0)).2.2.1 ∧ (m 250 0 = 2 → m 257 1 = (alk I l (m 250 0)).2.2.2))
/-- the told walk -/
def WK (m : Mem) : Prop := 0 ≤ m 258 1 ∧ m 258 1 ≤ 10 ∧ (m 258 4 ≤ 0 ∧ m 264 72 = 0 ∨ 0 < m 258 4 ∧ m 264 72 = m 258 1 ∧ ∀ k : Nat, (k : Int) < m 258 1 → m 261 k = m 309 k)
def SeedE (m : Mem) (s : Int) : Prop := m 3 8 = s ∧ m 264 56 = s ∧ 0 ≤ s ∧ s < 2147483648
def PaE (m : Mem) (I : Isl) : Prop := ∃ (c nx uf : Nat) (ls : Nat → Lnd), PX m c nx ls ∧ PM m c uf (nT I) ls ∧ ∀ i, i < c → GL I (ls i)
/-- tables that no call changes -/
def Kst (m : Mem) : Prop := (∀ k, k < 8 → m 1 k = mst 1 k ∧ m 2 k = mst 2 k) ∧ ∀ k, k < 27 → m 7 k = mo LM 7 k
theorem kst_off {m m2 : Mem} (h : Kst m) (e1 : m2 1 = m 1) (e2 : m2 2 = m 2) (e7 : m2 7 = m 7) : Kst m2 := by
  unfold Kst
  rw [e1, e2, e7]
  exact h
def St (m : Mem) (P b : Nat) (I : Isl) : Prop := B3 m P ∧ (P = 11 ∧ b = 0 ∨ P = 40 ∧ b = 1) ∧ m 3 4 = 51 - (P : Int) ∧ PS m P I ∧ MD m b I ∧ MN m b I
def InvP (m : Mem) (P b : Nat) (I : Isl) (l : Lnd) (s : Int) : Prop := Refs m ∧ St m P b I ∧ Gd I ∧ (LD m 69 l ∧ MY m 0 l (nT I) ∧ GL I l) ∧ PaE m I ∧ TO m P I l ∧ (m 204 0 = 0 ∧ m 245 0 = 0) ∧ HG m I l ∧ WK m ∧ SeedE m s ∧ Refd m ∧ TapeEq m ∧ FaultEq m ∧ OutEq m ∧ Kst m
def Inv (m : Mem) : Prop := ∃ P b I l s, InvP m P b I l s
/-- what may change while the relation holds -/
def Scr (P a k : Nat) : Prop := (a = 3 ∧ k = 12) ∨ (160 ≤ a ∧ a ≤ 201 ∧ ¬a = 165 ∧ ¬a = 177 ∧ ¬a = 189) ∨ (203 ≤ a ∧ a ≤ 244 ∧ ¬a = 208 ∧ ¬a = 220 ∧ ¬a = 232 ∧ ¬(a = 204 ∧ k = 0)) ∨ (a = 245 ∧ ¬k = 0) ∨ (a = 73 ∧ k = 3) ∨ (74 ≤ a ∧ a ≤ 76) ∨ (a = 246 ∧ (k = 2 ∨ k = 3)) ∨ (247 ≤ a ∧ a ≤ 249) ∨ (a = 250 ∧ (k = 0 ∨ k = 4 ∨ k = 5 ∨ k = 8 ∨ k = 9)) ∨ (252 ≤ a ∧ a ≤ 257) ∨ a = 259 ∨ a = 260 ∨ a = P + 27 ∨ a = P + 27 ∨ (a = 264 ∧ (58 ≤ k ∧ k ≤ 61 ∨ k = 69 ∨ k = 70)) ∨ (300 ≤ a ∧ a ≤ 308) ∨ a = 310 ∨ a = 311 ∨ (a = 296 ∧ k = 1) ∨ (a = 297 ∧ 42 ≤ k ∧ k < 84) ∨ (a = 298 ∧ 10 ≤ k ∧ k < 20) ∨ (a = 299 ∧ 5 ≤ k ∧ k < 10)
theorem scr_r1 : ∀ a, a < 313 → (160 ≤ a ∧ a ≤ 201 ∧ ¬a = 165 ∧ ¬a = 177 ∧ ¬a = 189) → (shK a == 1 || shK a == 2) = true := by decide +kernel
theorem scr_r2 : ∀ a, a < 313 → (203 ≤ a ∧ a ≤ 244 ∧ ¬a = 208 ∧ ¬a = 220 ∧ ¬a = 232) → (shK a == 1 || shK a == 2) = true := by decide +kernel
theorem scr_r3 : ∀ a, a < 313 → (a = 245 ∨ 74 ≤ a ∧ a ≤ 76 ∨ 247 ≤ a ∧ a ≤ 249 ∨ 252 ≤ a ∧ a ≤ 257 ∨ a = 259 ∨ a = 260) → (shK a == 1 || shK a == 2) = true := by decide +kernel
theorem scr_r4 : ∀ a, a < 313 → (a = 38 ∨ a = 67 ∨ 296 ≤ a ∧ a ≤ 308 ∨ a = 310 ∨ a = 311) → (shK a == 1 || shK a == 2) = true := by decide +kernel
theorem scr_c2 : isRef 3 12 = false ∧ isRef 73 3 = false ∧ isRef 246 2 = false ∧ isRef 246 3 = false ∧ isRef 250 0 = false ∧ isRef 250 4 = false ∧ isRef 250 5 = false ∧ isRef 250 8 = false ∧ isRef 250 9 = false ∧ isRef 264 58 = false ∧ isRef 264 59 = false ∧ isRef 264 60 = false ∧ isRef 264 61 = false ∧ isRef 264 69 = false ∧ isRef 264 70 = false := by decide +kernel
theorem arr_ref {a : Nat} (c : (shK a == 1 || shK a == 2) = true) (k : Nat) : isRef a k = false := by
  unfold isRef
  simp only [Bool.or_eq_true, beq_iff_eq] at c
  rcases c with c | c <;> rw [c] <;> rfl
theorem scr_ref {P a k : Nat} (hP : P = 11 ∨ P = 40) (h : Scr P a k) : isRef a k = false := by
  obtain ⟨c1, c2, c3, c4, c5, c6, c7, c8, c9, c10, c11, c12, c13, c14, c15⟩ := scr_c2
  unfold Scr at h
  rcases h with h | h | h | h | h | h | h | h | h | h | h | h | h | h | h | h | h | h | h | h | h | h
  · rw [h.1, h.2]; exact c1
  · exact arr_ref (scr_r1 a (by omega) h) k
  · exact arr_ref (scr_r2 a (by omega) ⟨h.1, h.2.1, h.2.2.1, h.2.2.2.1, h.2.2.2.2.1⟩) k
  · exact arr_ref (scr_r3 a (by omega) (Or.inl h.1)) k
  · rw [h.1, h.2]; exact c2
  · exact arr_ref (scr_r3 a (by omega) (by omega)) k
  · obtain ⟨e, f⟩ := h
    rw [e]
    rcases f with f | f <;> rw [f] <;> assumption
  · exact arr_ref (scr_r3 a (by omega) (by omega)) k
  · obtain ⟨e, f⟩ := h
    rw [e]
    rcases f with f | f | f | f | f <;> rw [f] <;> assumption
  · exact arr_ref (scr_r3 a (by omega) (by omega)) k
  · exact arr_ref (scr_r3 a (by omega) (by omega)) k
  · exact arr_ref (scr_r3 a (by omega) (by omega)) k
  · exact arr_ref (scr_r4 a (by omega) (by omega)) k
  · exact arr_ref (scr_r4 a (by omega) (by omega)) k
  · obtain ⟨e, f⟩ := h
    rw [e]
    have q : k = 58 ∨ k = 59 ∨ k = 60 ∨ k = 61 ∨ k = 69 ∨ k = 70 := by omega
    rcases q with f | f | f | f | f | f <;> rw [f] <;> assumption
  · exact arr_ref (scr_r4 a (by omega) (by omega)) k
  · exact arr_ref (scr_r4 a (by omega) (by omega)) k
  · exact arr_ref (scr_r4 a (by omega) (by omega)) k
  · exact arr_ref (scr_r4 a (by omega) (by omega)) k
  · exact arr_ref (scr_r4 a (by omega) (by omega)) k
  · exact arr_ref (scr_r4 a (by omega) (by omega)) k
  · exact arr_ref (scr_r4 a (by omega) (by omega)) k
theorem inv_fr {m m2 : Mem} {P b : Nat} {I : Isl} {l : Lnd} {s : Int} (h : InvP m P b I l s) (f : ∀ a k, ¬Scr P a k → m2 a k = m a k) (t : TO m2 P I l) (hg : HG m2 I l) : InvP m2 P b I l s := by
  obtain ⟨h1, ⟨b1, b2, b3, b4, b5, b6⟩, h3, ⟨h4, h5, h6⟩, ⟨c, nx, uf, ls, pa1, pa2, pa3⟩, _, ⟨h9, h10⟩, _, h12, h13, h14, h15, h16, h17, h18⟩ := h
  have hP := b1.1
  have ro : ∀ a, (∀ k, ¬Scr P a k) → m2 a = m a := fun a ha => funext fun k => f a k (ha k)
  refine ⟨refs_of h1 (fun a k hk => f a k (fun y => by rw [scr_ref hP y] at hk; exact absurd hk (by decide))), ⟨⟨hP, by rw [f 3 3 (by unfold Scr; omega)]; exact b1.2⟩, b2, by rw [f 3 4 (by unfold Scr; omega)]; exact b3, ⟨pd_off b4.1 fun a a1 a2 _ _ _ => ro a (fun k => by unfold Scr; omega), sd_off b4.2.1 (fun q q1 q2 => ro q (fun k => by unfold Scr; omega)), sd_off b4.2.2 (fun q q1 q2 => ro q (fun k => by unfold Scr; omega))⟩, md_off b5 (f 264 13 (by unfold Scr; omega)) (fun a _ _ => ro a (fun k => by unfold Scr; omega)), ?_⟩, h3, ⟨ld_off h4 (fun a _ _ => ro a (fun k => by unfold Scr; omega)), ?_, h6⟩, ⟨c, nx, uf, ls, ?_, ?_, pa3⟩, t, ⟨by rw [f 204 0 (by unfold Scr; omega)]; exact h9, by rw [f 245 0 (by unfold Scr; omega)]; exact h10⟩, hg, ?_, ?_, ?_, ?_, ?_, ?_, kst_off h18 (ro 1 (fun k => by unfold Scr; omega)) (ro 2 (fun k => by unfold Scr; omega)) (ro 7 (fun k => by unfold Scr; omega))⟩
  · unfold MN
    rw [ro 272 (fun k => by unfold Scr; omega), ro 289 (fun k => by unfold Scr; omega), ro 290 (fun k => by unfold Scr; omega)]
    exact b6
  · obtain ⟨y1, y2, y3, y4, y5, y6⟩ := h5
    refine ⟨y1, fun i i0 i1 => ?_, fun i i0 i1 => ?_, fun i i0 i1 => ?_, ?_, y6⟩
    · rw [f 297 _ (by unfold Scr; omega)]; exact y2 i i0 i1
    · rw [f 298 _ (by unfold Scr; omega)]; exact y3 i i0 i1
    · rw [f 299 _ (by unfold Scr; omega)]; exact y4 i i0 i1
    · rw [f 296 _ (by unfold Scr; omega)]; exact y5
  · obtain ⟨p1, p2, p3, p4, p5⟩ := pa1
    exact ⟨by rw [f 77 2 (by unfold Scr; omega)]; exact p1, by rw [f 77 1 (by unfold Scr; omega)]; exact p2, p3, p4, fun i hi => ld_off (p5 i hi) fun a a1 a2 => ro a (fun k => by unfold Scr; omega)⟩
  · obtain ⟨p1, p2, p3, p4, p5⟩ := pa2
    refine ⟨by rw [f 264 55 (by unfold Scr; omega)]; exact p1, by rw [f 264 54 (by unfold Scr; omega)]; exact p2, p3, p4, fun i hi => ?_⟩
    obtain ⟨y1, y2, y3, y4, y5, y6⟩ := p5 i hi
    refine ⟨y1, fun j i0 i1 => ?_, fun j i0 i1 => ?_, fun j i0 i1 => ?_, ?_, y6⟩
    · rw [f 297 _ (by unfold Scr; omega)]; exact y2 j i0 i1
    · rw [f 298 _ (by unfold Scr; omega)]; exact y3 j i0 i1
    · rw [f 299 _ (by unfold Scr; omega)]; exact y4 j i0 i1
    · rw [f 296 _ (by unfold Scr; omega)]; exact y5
  · unfold WK
    rw [f 258 1 (by unfold Scr; omega), f 258 4 (by unfold Scr; omega), f 264 72 (by unfold Scr; omega), ro 261 (fun k => by unfold Scr; omega), ro 309 (fun k => by unfold Scr; omega)]
    exact h12
  · unfold SeedE
    rw [f 3 8 (by unfold Scr; omega), f 264 56 (by unfold Scr; omega)]
    exact h13
  · intro j hj
    rw [f 263 j (by unfold Scr; omega), f 295 j (by unfold Scr; omega)]
    exact h14 j hj
  · unfold TapeEq
    rw [f 3 1 (by unfold Scr; omega), f 264 1 (by unfold Scr; omega), ro 4 (fun k => by unfold Scr; omega), ro 265 (fun k => by unfold Scr; omega)]
    exact h15
  · unfold FaultEq
    rw [f 5 9 (by unfold Scr; omega), f 5 10 (by unfold Scr; omega), f 264 10 (by unfold Scr; omega), f 264 11 (by unfold Scr; omega)]
    exact h16
  · unfold OutEq
    rw [f 3 17 (by unfold Scr; omega), f 264 77 (by unfold Scr; omega), ro 262 (fun k => by unfold Scr; omega), ro 312 (fun k => by unfold Scr; omega)]
    exact h17
