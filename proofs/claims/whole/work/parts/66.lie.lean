/-! the class's night: how dew lies on one thing, hour by hour -/
theorem ar_stE {a : Nat} {n : Nat} {i : Int} (k : shK a = 1) (hn : shN a = n) (h3 : 3 ≤ a) (h0 : 0 ≤ i) (h1 : i < n) (v : Int) (m : Mem) : ∃ g, astI a i v m = some (setA m a g) ∧ g i.toNat = v ∧ ∀ j, ¬j = i.toNat → g j = m a j := ⟨_, ar_st k hn h3 h0 h1 v m, if_pos rfl, fun _ hj => if_neg hj⟩
theorem wp_ibi {α : Type} {t c : Int} {F : Int → Option α} {Q : α → Prop} (h : Wp (F (bi (t = c))) Q) : Wp (if ¬t = c then F 0 else F 1) Q := by
  by_cases q : t = c
  · rw [if_neg (fun x => x q)]
    rw [← bi_t q] at h
    exact h
  · rw [if_pos q]
    rw [← bi_f q] at h
    exact h
def isN (T : Nat) : Prop := T = 159 ∨ T = 202
theorem nt_K {T : Nat} (h : isN T) : shK T = 3 + 10 := by rcases h with e | e <;> subst e <;> decide +kernel
theorem nt_R {m : Mem} {T : Nat} (r : Refs m) (h : isN T) : getR 3 0 T m = some (T + 1) ∧ getR 3 1 T m = some (T + 2) ∧ getR 3 2 T m = some (T + 3) ∧ getR 3 3 T m = some (T + 4) ∧ getR 3 4 T m = some (T + 5) ∧ getR 3 5 T m = some (T + 6) ∧ getR 3 6 T m = some (T + 18) ∧ getR 3 7 T m = some (T + 30) ∧ getR 3 8 T m = some (T + 42) := by
  rcases h with e | e <;> subst e
  · exact ⟨rc r 160 (by decide +kernel), rc r 161 (by decide +kernel), rc r 162 (by decide +kernel), rc r 163 (by decide +kernel), rc r 164 (by decide +kernel), rc r 165 (by decide +kernel), rc r 177 (by decide +kernel), rc r 189 (by decide +kernel), rc r 201 (by decide +kernel)⟩
  · exact ⟨rc r 203 (by decide +kernel), rc r 204 (by decide +kernel), rc r 205 (by decide +kernel), rc r 206 (by decide +kernel), rc r 207 (by decide +kernel), rc r 208 (by decide +kernel), rc r 220 (by decide +kernel), rc r 232 (by decide +kernel), rc r 244 (by decide +kernel)⟩
theorem nt_S {T : Nat} (h : isN T) : (shK (T + 1) = 1 ∧ shN (T + 1) = 13) ∧ (shK (T + 2) = 1 ∧ shN (T + 2) = 13) ∧ (shK (T + 3) = 1 ∧ shN (T + 3) = 42) ∧ (shK (T + 4) = 1 ∧ shN (T + 4) = 42) ∧ (shK (T + 5) = 1 ∧ shN (T + 5) = 10) ∧ (shK (T + 42) = 1 ∧ shN (T + 42) = 5) := by
  rcases h with e | e <;> subst e <;> decide +kernel
theorem nt_rows : ∀ T, T < 203 → (T == 159 || T == 202) = true → ∀ i, i < 11 → (∀ q, q < 3 → (isCon (T + 6 + 12 * q) i && (shK (T + 6 + 12 * q) == 3 || shK (T + 6 + 12 * q) == 4) && decide (i < shN (T + 6 + 12 * q)) && decide (T + 7 + 12 * q + i ≠ 0) && mo LM (T + 6 + 12 * q) i == ((T + 7 + 12 * q + i : Nat) : Int) && (shK (T + 7 + 12 * q + i) == 1 && shN (T + 7 + 12 * q + i) == 13)) = true) := by decide +kernel
theorem nt_rowS {T : Nat} (h : isN T) {i q : Nat} (hi : i < 11) (hq : q < 3) : shK (T + 7 + 12 * q + i) = 1 ∧ shN (T + 7 + 12 * q + i) = 13 := by
  have := nt_rows T (by unfold isN at h; omega) (by rcases h with e | e <;> subst e <;> decide) i hi q hq
  simp only [Bool.and_eq_true, beq_iff_eq] at this
  exact this.2
theorem nt_row {m : Mem} (r : Refs m) {T : Nat} (h : isN T) {i : Int} (i0 : 0 ≤ i) (i1 : i < 11) {q : Nat} (hq : q < 3) : aldR (T + 6 + 12 * q) i m = some (T + 7 + 12 * q + i.toNat) := by
  have := nt_rows T (by unfold isN at h; omega) (by rcases h with e | e <;> subst e <;> decide) i.toNat (by omega) q hq
  rw [Bool.and_eq_true] at this
  exact rca r (by omega) (T + 7 + 12 * q + i.toNat) this.1
def clr (sk : Int → Int) : Nat → Int
  | 0 => 0
  | h + 1 => clr sk h + bi (sk ((h : Int) + 1) = 0)
theorem clr_in (sk : Int → Int) (h : Nat) : 0 ≤ clr sk h ∧ clr sk h ≤ h := by
  induction h with
  | zero => exact ⟨Int.le_refl _, Int.le_refl _⟩
  | succ h ih =>
    have := bi_in (sk ((h : Int) + 1) = 0)
    have e : clr sk (h + 1) = clr sk h + bi (sk ((h : Int) + 1) = 0) := rfl
    omega
/-- where the cold of a cell comes to lie -/
def pol (I : Isl) (l : Lnd) (c : Int) : Nat → Int
  | 0 => c
  | k + 1 => if low I l (pol I l c k) = -1 then pol I l c k else low I l (pol I l c k)
/-- how many of the first cells flow into p -/
def flwTo (I : Isl) (l : Lnd) (p : Int) : Nat → Int
  | 0 => 0
  | c + 1 => flwTo I l p c + bi (hasW l c = 0 ∧ pol I l c 9 = p)
def flw (I : Isl) (l : Lnd) (p : Int) : Int := flwTo I l p (nC I).toNat
theorem flwTo_in (I : Isl) (l : Lnd) (p : Int) (c : Nat) : 0 ≤ flwTo I l p c ∧ flwTo I l p c ≤ c := by
  induction c with
  | zero => exact ⟨Int.le_refl _, Int.le_refl _⟩
  | succ c ih =>
    have := bi_in (hasW l c = 0 ∧ pol I l c 9 = p)
    have e : flwTo I l p (c + 1) = flwTo I l p c + bi (hasW l c = 0 ∧ pol I l c 9 = p) := rfl
    omega
def cold (I : Isl) (l : Lnd) (sk : Int → Int) (c : Int) (h : Nat) : Int := flw I l c * clr sk h
theorem cold_in {I : Isl} (z : Sz I) (l : Lnd) (sk : Int → Int) (c : Int) {h : Nat} (hh : h ≤ 12) : 0 ≤ cold I l sk c h ∧ cold I l sk c h ≤ 504 := by
  have a := clr_in sk h
  have b := flwTo_in I l c (nC I).toNat
  obtain ⟨z1, z2, z3, z4, z5, z6, z7⟩ := id z
  unfold cold flw
  refine ⟨Int.mul_nonneg b.1 a.1, Int.le_trans (Int.mul_le_mul (c := 42) (d := 12) (by omega) (by omega) a.1 (by omega)) (by omega)⟩
def lim (x most : Int) : Int := max 0 (min x most)
def fac (o hi co h s ne w tk : Int) : Int → Int := fun k => if k = 0 then o else if k = 1 then hi else if k = 2 then co else if k = 3 then h else if k = 4 then bi (s = 1) else if k = 5 then bi (s = 2) else if k = 6 then bi (s = 3) else if k = 7 then ne else if k = 8 then w else tk
def nD (I : Isl) : Nat := (I 23 0).toNat
def nR (I : Isl) : Nat := (I 25 0).toNat
/-- what is known of a thing in a cell in an hour, with so many drops on it -/
def fcs (I : Isl) (l : Lnd) (sk : Int → Int) (c tk : Int) (h : Nat) (w : Int) : Int → Int := fac (opn I l c) (I 3 c) (cold I l sk c h) h (sk h) (hos I c) w tk
/-- drops on it behind an hour -/
def dwt (I : Isl) (l : Lnd) (sk : Int → Int) (c tk : Int) : Nat → Int
  | 0 => 0
  | h + 1 => dwt I l sk c tk h + lim (wrt (fcs I l sk c tk (h + 1) (dwt I l sk c tk h)) (I 22) (nD I)) 99 - lim (wrt (fcs I l sk c tk (h + 1) (dwt I l sk c tk h + lim (wrt (fcs I l sk c tk (h + 1) (dwt I l sk c tk h)) (I 22) (nD I)) 99)) (I 24) (nR I)) (dwt I l sk c tk h + lim (wrt (fcs I l sk c tk (h + 1) (dwt I l sk c tk h)) (I 22) (nD I)) 99)
/-- what comes, what dries in hour h + 1 -/
def cam (I : Isl) (l : Lnd) (sk : Int → Int) (c tk : Int) (h : Nat) : Int := lim (wrt (fcs I l sk c tk (h + 1) (dwt I l sk c tk h)) (I 22) (nD I)) 99
def dri (I : Isl) (l : Lnd) (sk : Int → Int) (c tk : Int) (h : Nat) : Int := lim (wrt (fcs I l sk c tk (h + 1) (dwt I l sk c tk h + cam I l sk c tk h)) (I 24) (nR I)) (dwt I l sk c tk h + cam I l sk c tk h)
theorem dwt_s (I : Isl) (l : Lnd) (sk : Int → Int) (c tk : Int) (h : Nat) : dwt I l sk c tk (h + 1) = dwt I l sk c tk h + cam I l sk c tk h - dri I l sk c tk h := rfl
theorem dwt_in (I : Isl) (l : Lnd) (sk : Int → Int) (c tk : Int) (h : Nat) : (0 ≤ dwt I l sk c tk h ∧ dwt I l sk c tk h ≤ 99 * h) ∧ (0 ≤ cam I l sk c tk h ∧ cam I l sk c tk h ≤ 99) ∧ 0 ≤ dri I l sk c tk h ∧ dri I l sk c tk h ≤ dwt I l sk c tk h + cam I l sk c tk h := by
  have a : ∀ h, 0 ≤ cam I l sk c tk h ∧ cam I l sk c tk h ≤ 99 := fun h => by unfold cam lim; omega
  have b : ∀ h, 0 ≤ dwt I l sk c tk h → 0 ≤ dri I l sk c tk h ∧ dri I l sk c tk h ≤ dwt I l sk c tk h + cam I l sk c tk h := fun h hd => by
    have := a h
    unfold dri lim
    omega
  have d : ∀ h : Nat, 0 ≤ dwt I l sk c tk h ∧ dwt I l sk c tk h ≤ 99 * h := by
    intro h
    induction h with
    | zero => exact ⟨Int.le_refl _, Int.le_refl _⟩
    | succ h ih =>
      have e := dwt_s I l sk c tk h
      have := a h
      have := b h ih.1
      omega
  exact ⟨d h, a h, b h (d h).1⟩
/-- what a sum may meet -/
def Vl (I : Isl) : Prop := (∀ c : Int, 0 ≤ c → c < nC I → 0 ≤ I 3 c ∧ I 3 c ≤ 9) ∧ (∀ t : Int, 0 ≤ t → t < I 9 0 → 1 ≤ I 10 t ∧ I 10 t ≤ 9) ∧ WF (I 22) (nD I) ∧ WF (I 24) (nR I) ∧ Hs I
theorem fcs_in {I : Isl} (z : Sz I) (v : Vl I) (l : Lnd) (sk : Int → Int) {c tk : Int} (c0 : 0 ≤ c) (c1 : c < nC I) (t0 : 0 ≤ tk) (t1 : tk ≤ 9) {h : Nat} (hh : h ≤ 12) {w : Int} (w0 : 0 ≤ w) (w1 : w ≤ 2000) : fB (fcs I l sk c tk h w) := by
  have a := opnTo_in I l c 8
  have b := v.1 c c0 c1
  have d := cold_in z l sk c hh
  have e := hosTo_in v.2.2.2.2 c 4
  have f1 := bi_in (sk h = 1)
  have f2 := bi_in (sk h = 2)
  have f3 := bi_in (sk h = 3)
  intro k k0 k1
  unfold fcs fac opn hos
  have q : k = 0 ∨ k = 1 ∨ k = 2 ∨ k = 3 ∨ k = 4 ∨ k = 5 ∨ k = 6 ∨ k = 7 ∨ k = 8 ∨ k = 9 := by omega
  rcases q with q | q | q | q | q | q | q | q | q | q <;> subst q <;> simp only [Int.reduceEq, if_false, if_true] <;> omega
theorem x_lookUp {m : Mem} {T : Nat} {sk : Int → Int} (r : Refs m) (hT : isN T) (hs : ∀ h : Int, 0 ≤ h → h < 13 → m (T + 1) h.toNat = sk h) {h : Int} (h0 : 1 ≤ h) (h1 : h ≤ 12) (co : Int) : ∃ g, X3_lookUp T h co m = some (setA m (T + 5) g) ∧ g 0 = m (T + 5) 0 ∧ g 1 = m (T + 5) 1 ∧ g 2 = co ∧ g 3 = h ∧ g 4 = bi (sk h = 1) ∧ g 5 = bi (sk h = 2) ∧ g 6 = bi (sk h = 3) ∧ g 7 = m (T + 5) 7 ∧ g 9 = m (T + 5) 9 := by
  have s := nt_S hT
  have hT2 : 159 ≤ T := by unfold isN at hT; omega
  obtain ⟨g1, e1, a1, b1⟩ := ar_stE s.2.2.2.2.1.1 s.2.2.2.2.1.2 (by omega) (i := 3) (by omega) (by omega) h m
  have r1 := refs_set r (Or.inl s.2.2.2.2.1.1) g1
  obtain ⟨g2, e2, a2, b2⟩ := ar_stE s.2.2.2.2.1.1 s.2.2.2.2.1.2 (by omega) (i := 2) (by omega) (by omega) co (setA m (T + 5) g1)
  rw [setA_setA] at e2
  have r2 := refs_set r (Or.inl s.2.2.2.2.1.1) g2
  obtain ⟨g3, e3, a3, b3⟩ := ar_stE s.2.2.2.2.1.1 s.2.2.2.2.1.2 (by omega) (i := 4) (by omega) (by omega) (bi (sk h = 1)) (setA m (T + 5) g2)
  rw [setA_setA] at e3
  have r3 := refs_set r (Or.inl s.2.2.2.2.1.1) g3
  obtain ⟨g4, e4, a4, b4⟩ := ar_stE s.2.2.2.2.1.1 s.2.2.2.2.1.2 (by omega) (i := 5) (by omega) (by omega) (bi (sk h = 2)) (setA m (T + 5) g3)
  rw [setA_setA] at e4
  have r4 := refs_set r (Or.inl s.2.2.2.2.1.1) g4
  obtain ⟨g5, e5, a5, b5⟩ := ar_stE s.2.2.2.2.1.1 s.2.2.2.2.1.2 (by omega) (i := 6) (by omega) (by omega) (bi (sk h = 3)) (setA m (T + 5) g4)
  rw [setA_setA] at e5
  have ld : ∀ g, aldI (T + 1) h (setA m (T + 5) g) = some (sk h) := fun g => by
    rw [ar_ld s.1.1 s.1.2 (by omega) (by omega), setA_ne (by omega), hs h (by omega) (by omega)]
  simp only [setA_same] at b2 b3 b4 b5
  refine ⟨g5, ?_, ?_⟩
  · refine wp_eq ?_
    unfold X3_lookUp
    refine wp_k (nt_K hT) ?_
    refine wp_b (nt_R r hT).2.2.2.2.1 ?_
    refine wp_b e1 ?_
    refine wp_b (nt_R r1 hT).2.2.2.2.1 ?_
    refine wp_b e2 ?_
    refine wp_b (nt_R r2 hT).2.2.2.2.1 ?_
    refine wp_b (nt_R r2 hT).1 ?_
    refine wp_b (ld _) ?_
    refine wp_ibi (F := fun v => X3_lookUp_J34 T h (T + 5) 4 v (setA m (T + 5) g2)) ?_
    show Wp (X3_lookUp_J34 T h (T + 5) 4 (bi (sk h = 1)) (setA m (T + 5) g2)) _
    unfold X3_lookUp_J34
    refine wp_b e3 ?_
    refine wp_b (nt_R r3 hT).2.2.2.2.1 ?_
    refine wp_b (nt_R r3 hT).1 ?_
    refine wp_b (ld _) ?_
    refine wp_ibi (F := fun v => X3_lookUp_J55 T h (T + 5) 5 v (setA m (T + 5) g3)) ?_
    show Wp (X3_lookUp_J55 T h (T + 5) 5 (bi (sk h = 2)) (setA m (T + 5) g3)) _
    unfold X3_lookUp_J55
    refine wp_b e4 ?_
    refine wp_b (nt_R r4 hT).2.2.2.2.1 ?_
    refine wp_b (nt_R r4 hT).1 ?_
    refine wp_b (ld _) ?_
    refine wp_ibi (F := fun v => X3_lookUp_J77 (T + 5) 6 v (setA m (T + 5) g4)) ?_
    show Wp (X3_lookUp_J77 (T + 5) 6 (bi (sk h = 3)) (setA m (T + 5) g4)) _
    unfold X3_lookUp_J77
    refine wp_b e5 ?_
    exact wp_some rfl
  · refine ⟨?_, ?_, ?_, ?_, ?_, ?_, a5, ?_, ?_⟩
    · rw [b5 0 (by decide), b4 0 (by decide), b3 0 (by decide), b2 0 (by decide), b1 0 (by decide)]
    · rw [b5 1 (by decide), b4 1 (by decide), b3 1 (by decide), b2 1 (by decide), b1 1 (by decide)]
    · rw [b5 2 (by decide), b4 2 (by decide), b3 2 (by decide)]; exact a2
    · rw [b5 3 (by decide), b4 3 (by decide), b3 3 (by decide), b2 3 (by decide)]; exact a1
    · rw [b5 4 (by decide), b4 4 (by decide)]; exact a3
    · rw [b5 5 (by decide)]; exact a4
    · rw [b5 7 (by decide), b4 7 (by decide), b3 7 (by decide), b2 7 (by decide), b1 7 (by decide)]
    · rw [b5 9 (by decide), b4 9 (by decide), b3 9 (by decide), b2 9 (by decide), b1 9 (by decide)]
