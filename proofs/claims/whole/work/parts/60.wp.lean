/-! what a reading call answers, step by step; the abstract island I and land l -/
def Wp {α : Type} (x : Option α) (Q : α → Prop) : Prop := ∃ v, x = some v ∧ Q v
theorem wp_some {α : Type} {v : α} {Q : α → Prop} (h : Q v) : Wp (some v) Q := ⟨v, rfl, h⟩
theorem wp_z0 {Q : Int → Prop} (h : Q 0) : Wp (retZ 0) Q := ⟨0, rfl, h⟩
theorem wp_z1 {Q : Int → Prop} (h : Q 1) : Wp (retZ 1) Q := ⟨1, rfl, h⟩
theorem wp_b {α β : Type} {x : Option α} {f : α → Option β} {Q : β → Prop} {v : α} (e : x = some v) (h : Wp (f v) Q) : Wp (x.bind f) Q := by
  subst e
  exact h
theorem wp_of {α : Type} {x : Option α} {v : α} {Q : α → Prop} (e : x = some v) (h : Q v) : Wp x Q := ⟨v, e, h⟩
theorem wp_eq {α : Type} {x : Option α} {v : α} (h : Wp x (fun r => r = v)) : x = some v := by
  obtain ⟨w, e, q⟩ := h
  rw [e, q]
theorem wp_if {α : Type} {c : Prop} [Decidable c] {x y : Option α} {Q : α → Prop} (h1 : c → Wp x Q) (h2 : ¬c → Wp y Q) : Wp (if c then x else y) Q := by
  by_cases q : c
  · rw [if_pos q]; exact h1 q
  · rw [if_neg q]; exact h2 q
theorem wp_k {α : Type} {a k : Nat} {x : Option α} {Q : α → Prop} (c : shK a = k) (h : Wp x Q) : Wp (if shK a = k then x else none) Q := by
  rw [if_pos c]; exact h
theorem wp_bw {α β : Type} {x : Option α} {f : α → Option β} {P : α → Prop} {Q : β → Prop} (h : Wp x P) (g : ∀ v, P v → Wp (f v) Q) : Wp (x.bind f) Q := by
  obtain ⟨v, e, q⟩ := h
  exact wp_b e (g v q)
theorem wp_c {α : Type} {x : Option α} {P Q : α → Prop} (h : Wp x P) (g : ∀ v, P v → Q v) : Wp x Q := by
  obtain ⟨v, e, q⟩ := h
  exact ⟨v, e, g v q⟩
theorem k264 : shK 264 = 11 + 10 := by decide +kernel
theorem k3 : shK 3 = 10 + 10 := by decide +kernel
theorem wI_of2 {x : Int} (a : -2147483648 ≤ x) (b : x < 2147483648) : wI x = x := wI_of ⟨a, b⟩
def bi (p : Prop) [Decidable p] : Int := if p then 1 else 0
theorem bi_0 {p : Prop} [Decidable p] : bi p = 0 ↔ ¬p := by
  unfold bi
  by_cases q : p
  · rw [if_pos q]; exact ⟨fun h => by omega, fun h => absurd q h⟩
  · rw [if_neg q]; exact ⟨fun _ => q, fun _ => rfl⟩
theorem bi_1 {p : Prop} [Decidable p] : bi p = 1 ↔ p := by
  unfold bi
  by_cases q : p
  · rw [if_pos q]; exact ⟨fun _ => q, fun _ => rfl⟩
  · rw [if_neg q]; exact ⟨fun h => by omega, fun h => absurd h q⟩
theorem bi_t {p : Prop} [Decidable p] (h : p) : 1 = bi p := (bi_1.mpr h).symm
theorem bi_f {p : Prop} [Decidable p] (h : ¬p) : 0 = bi p := (bi_0.mpr h).symm
theorem bi_in (p : Prop) [Decidable p] : bi p = 0 ∨ bi p = 1 := by
  unfold bi
  by_cases q : p
  · rw [if_pos q]; exact Or.inr rfl
  · rw [if_neg q]; exact Or.inl rfl
theorem bi_c {p q : Prop} [Decidable p] [Decidable q] (h : p ↔ q) : bi p = bi q := by
  by_cases r : p
  · rw [← bi_t r, ← bi_t (h.mp r)]
  · rw [← bi_f r, ← bi_f (fun x => r (h.mpr x))]
/-- an island: by field and place, as the class's plan has them -/
abbrev Isl : Type := Nat → Int → Int
abbrev Lnd : Type := Nat → Int → Int
def nC (I : Isl) : Int := I 0 0 * I 1 0
/-- where the rows of a plan lie behind it -/
def ofs (k : Nat) : Nat := if k = 2 then 1 else if k = 3 then 10 else if k = 4 then 11 else if k = 5 then 12 else if k = 7 then 16 else if k = 8 then 17 else if k = 10 then 18 else if k = 11 then 19 else if k = 13 then 20 else if k = 14 then 21 else if k = 15 then 22 else if k = 16 then 23 else 0
def rln (k : Nat) : Nat := if k = 3 then 42 else if k = 4 then 42 else if k = 7 then 5 else if k = 8 then 5 else if k = 10 then 10 else if k = 11 then 10 else if k = 13 then 10 else if k = 14 then 10 else if k = 15 then 13 else 0
def isPS (k : Nat) : Bool := k == 0 || k == 1 || k == 6 || k == 9 || k == 12 || k == 17 || k == 18 || k == 19
/-- the cell at a place; -1 off the island -/
def cellAt (I : Isl) (x y : Int) : Int := if 0 ≤ x ∧ x < I 0 0 ∧ 0 ≤ y ∧ y < I 1 0 then y * I 0 0 + x else -1
def dxs (s : Int) : Int := mst 1 s.toNat
def dys (s : Int) : Int := mst 2 s.toNat
/-- the cell on a side of a cell -/
def nbr (I : Isl) (s c : Int) : Int := cellAt I (c % I 0 0 + dxs s) (c / I 0 0 + dys s)
/-- the plan P holds I -/
def PD (m : Mem) (P : Nat) (I : Isl) : Prop := (P = 11 ∨ P = 40) ∧ (∀ k, isPS k = true → m P k = I k 0) ∧ (∀ k (i : Int), 0 ≤ i → i < rln k → m (P + ofs k) i.toNat = I k i) ∧ (∀ s c : Int, 0 ≤ s → s < 8 → 0 ≤ c → c < nC I → m (P + 2 + s.toNat) c.toNat = nbr I s c) ∧ (∀ i : Int, 0 ≤ i → i < 10 → m (P + 14) i.toNat = I 21 i)
theorem pd_K {m : Mem} {P : Nat} {I : Isl} (h : PD m P I) : shK P = 5 + 10 := by
  rcases h.1 with e | e <;> subst e <;> decide +kernel
theorem pd_I {m : Mem} {P : Nat} {I : Isl} {k : Nat} (h : PD m P I) (c : isPS k = true) : getI 5 k P m = some (I k 0) := by
  have hk : k < 20 := by
    unfold isPS at c
    simp only [Bool.or_eq_true, beq_iff_eq] at c
    omega
  have hn : shN P = 20 := by rcases h.1 with e | e <;> subst e <;> decide +kernel
  unfold getI
  rw [if_pos ⟨pd_K h, by rw [hn]; exact hk⟩, h.2.1 k c]
theorem pd_Rc : ∀ P, P < 41 → (P == 11 || P == 40) = true → ∀ k, k < 20 → (ofs k != 0) = true → (isCon P k && shK P == 5 + 10 && decide (k < shN P) && decide (P + ofs k ≠ 0) && mo LM P k == ((P + ofs k : Nat) : Int)) = true := by decide +kernel
theorem ofs_lt {k : Nat} (h : (ofs k != 0) = true) : k < 20 := by
  rcases Nat.lt_or_ge k 20 with q | q
  · exact q
  · unfold ofs at h
    repeat rw [if_neg (by omega)] at h
    cases h
theorem pd_R {m : Mem} {P : Nat} {I : Isl} {k : Nat} (r : Refs m) (h : PD m P I) (c : (ofs k != 0) = true) : getR 5 k P m = some (P + ofs k) :=
  rc r (P + ofs k) (pd_Rc P (by have := h.1; omega) (by rcases h.1 with e | e <;> subst e <;> decide) k (ofs_lt c) c)
theorem pd_Sc : ∀ P, P < 41 → (P == 11 || P == 40) = true → ∀ k, k < 20 → (rln k != 0) = true → (shK (P + ofs k) == 1 && shN (P + ofs k) == rln k && decide (3 ≤ P + ofs k)) = true := by decide +kernel
theorem pd_S {m : Mem} {P : Nat} {I : Isl} (h : PD m P I) {k : Nat} (hk : k < 20) (c : (rln k != 0) = true) : shK (P + ofs k) = 1 ∧ shN (P + ofs k) = rln k := by
  have q := pd_Sc P (by have := h.1; omega) (by rcases h.1 with e | e <;> subst e <;> decide) k hk c
  simp only [Bool.and_eq_true, beq_iff_eq] at q
  exact q.1
theorem pd_row {m : Mem} {P : Nat} {I : Isl} (h : PD m P I) {k : Nat} (hk : k < 20) (c : (rln k != 0) = true) {i : Int} (h0 : 0 ≤ i) (h1 : i < rln k) : aldI (P + ofs k) i m = some (I k i) := by
  obtain ⟨a, b⟩ := pd_S h hk c
  unfold aldI
  rw [if_pos ⟨a, h0, by rw [b]; exact h1⟩, h.2.2.1 k i h0 h1]
theorem pd_r3 {m : Mem} {P : Nat} {I : Isl} (h : PD m P I) {i : Int} (h0 : 0 ≤ i) (h1 : i < 42) : aldI (P + ofs 3) i m = some (I 3 i) := pd_row h (by decide) (by decide) h0 h1
theorem pd_r4 {m : Mem} {P : Nat} {I : Isl} (h : PD m P I) {i : Int} (h0 : 0 ≤ i) (h1 : i < 42) : aldI (P + ofs 4) i m = some (I 4 i) := pd_row h (by decide) (by decide) h0 h1
theorem pd_r7 {m : Mem} {P : Nat} {I : Isl} (h : PD m P I) {i : Int} (h0 : 0 ≤ i) (h1 : i < 5) : aldI (P + ofs 7) i m = some (I 7 i) := pd_row h (by decide) (by decide) h0 h1
theorem pd_r8 {m : Mem} {P : Nat} {I : Isl} (h : PD m P I) {i : Int} (h0 : 0 ≤ i) (h1 : i < 5) : aldI (P + ofs 8) i m = some (I 8 i) := pd_row h (by decide) (by decide) h0 h1
theorem pd_r10 {m : Mem} {P : Nat} {I : Isl} (h : PD m P I) {i : Int} (h0 : 0 ≤ i) (h1 : i < 10) : aldI (P + ofs 10) i m = some (I 10 i) := pd_row h (by decide) (by decide) h0 h1
theorem pd_r11 {m : Mem} {P : Nat} {I : Isl} (h : PD m P I) {i : Int} (h0 : 0 ≤ i) (h1 : i < 10) : aldI (P + ofs 11) i m = some (I 11 i) := pd_row h (by decide) (by decide) h0 h1
theorem pd_r13 {m : Mem} {P : Nat} {I : Isl} (h : PD m P I) {i : Int} (h0 : 0 ≤ i) (h1 : i < 10) : aldI (P + ofs 13) i m = some (I 13 i) := pd_row h (by decide) (by decide) h0 h1
theorem pd_r14 {m : Mem} {P : Nat} {I : Isl} (h : PD m P I) {i : Int} (h0 : 0 ≤ i) (h1 : i < 10) : aldI (P + ofs 14) i m = some (I 14 i) := pd_row h (by decide) (by decide) h0 h1
theorem pd_r15 {m : Mem} {P : Nat} {I : Isl} (h : PD m P I) {i : Int} (h0 : 0 ≤ i) (h1 : i < 13) : aldI (P + ofs 15) i m = some (I 15 i) := pd_row h (by decide) (by decide) h0 h1
theorem pd_sidec : ∀ P, P < 41 → (P == 11 || P == 40) = true → ∀ s, s < 8 → (isCon (P + 1) s && (shK (P + 1) == 3 || shK (P + 1) == 4) && decide (s < shN (P + 1)) && decide (P + 2 + s ≠ 0) && mo LM (P + 1) s == ((P + 2 + s : Nat) : Int) && shK (P + 2 + s) == 1 && shN (P + 2 + s) == 42) = true := by decide +kernel
theorem pd_side {m : Mem} {P : Nat} {I : Isl} (r : Refs m) (h : PD m P I) {s : Int} (h0 : 0 ≤ s) (h1 : s < 8) : aldR (P + ofs 2) s m = some (P + 2 + s.toNat) := by
  have q := pd_sidec P (by have := h.1; omega) (by rcases h.1 with e | e <;> subst e <;> decide) s.toNat (by omega)
  rw [Bool.and_eq_true, Bool.and_eq_true] at q
  exact rca r (by omega) (P + 2 + s.toNat) q.1.1
theorem pd_nb {m : Mem} {P : Nat} {I : Isl} (h : PD m P I) {s c : Int} (h0 : 0 ≤ s) (h1 : s < 8) (c0 : 0 ≤ c) (c1 : c < nC I) (c2 : c < 42) : aldI (P + 2 + s.toNat) c m = some (nbr I s c) := by
  have q := pd_sidec P (by have := h.1; omega) (by rcases h.1 with e | e <;> subst e <;> decide) s.toNat (by omega)
  simp only [Bool.and_eq_true, beq_iff_eq] at q
  unfold aldI
  rw [if_pos ⟨q.1.2, c0, by rw [q.2]; exact c2⟩, h.2.2.2.1 s c h0 h1 c0 c1]
/-- a land: walls, spots, drops, nights -/
def isLd (L : Nat) : Bool := L == 69 || L == 73 || L == 23 || L == 52 || (decide (79 ≤ L) && decide (L ≤ 155) && (L - 79) % 4 == 0)
def lln (k : Nat) : Nat := if k = 0 then 42 else if k = 1 then 10 else 5
def LD (m : Mem) (L : Nat) (l : Lnd) : Prop := isLd L = true ∧ (∀ k (i : Int), k < 3 → 0 ≤ i → i < lln k → m (L + 1 + k) i.toNat = l k i) ∧ m L 3 = l 3 0
theorem ld_c : ∀ L, L < 160 → isLd L = true → (shK L == 1 + 10 && shN L == 4) = true ∧ ∀ k, k < 3 → (isCon L k && shK L == 1 + 10 && decide (k < shN L) && decide (L + 1 + k ≠ 0) && mo LM L k == ((L + 1 + k : Nat) : Int)) = true ∧ (shK (L + 1 + k) == 1 && shN (L + 1 + k) == lln k && decide (3 ≤ L + 1 + k)) = true := by decide +kernel
theorem isLd_lt {L : Nat} (h : isLd L = true) : L < 160 := by
  unfold isLd at h
  simp only [Bool.or_eq_true, Bool.and_eq_true, beq_iff_eq, decide_eq_true_eq] at h
  omega
theorem ld_K {m : Mem} {L : Nat} {l : Lnd} (h : LD m L l) : shK L = 1 + 10 := by
  have q := (ld_c L (isLd_lt h.1) h.1).1
  simp only [Bool.and_eq_true, beq_iff_eq] at q
  exact q.1
theorem ld_R {m : Mem} {L : Nat} {l : Lnd} {k : Nat} (r : Refs m) (h : LD m L l) (c : k < 3) : getR 1 k L m = some (L + 1 + k) := rc r (L + 1 + k) ((ld_c L (isLd_lt h.1) h.1).2 k c).1
theorem ld_S {L : Nat} (h : isLd L = true) {k : Nat} (c : k < 3) : shK (L + 1 + k) = 1 ∧ shN (L + 1 + k) = lln k := by
  have q := ((ld_c L (isLd_lt h) h).2 k c).2
  simp only [Bool.and_eq_true, beq_iff_eq] at q
  exact q.1
theorem ld_row {m : Mem} {L : Nat} {l : Lnd} (h : LD m L l) {k : Nat} (c : k < 3) {i : Int} (h0 : 0 ≤ i) (h1 : i < lln k) : aldI (L + 1 + k) i m = some (l k i) := by
  obtain ⟨a, b⟩ := ld_S h.1 c
  unfold aldI
  rw [if_pos ⟨a, h0, by rw [b]; exact h1⟩, h.2.1 k i c h0 h1]
theorem ld_r0 {m : Mem} {L : Nat} {l : Lnd} (h : LD m L l) {i : Int} (h0 : 0 ≤ i) (h1 : i < 42) : aldI (L + 1 + 0) i m = some (l 0 i) := ld_row h (by decide) h0 h1
theorem ld_r1 {m : Mem} {L : Nat} {l : Lnd} (h : LD m L l) {i : Int} (h0 : 0 ≤ i) (h1 : i < 10) : aldI (L + 1 + 1) i m = some (l 1 i) := ld_row h (by decide) h0 h1
theorem ld_r2 {m : Mem} {L : Nat} {l : Lnd} (h : LD m L l) {i : Int} (h0 : 0 ≤ i) (h1 : i < 5) : aldI (L + 1 + 2) i m = some (l 2 i) := ld_row h (by decide) h0 h1
theorem ld_len {L : Nat} (h : isLd L = true) {k : Nat} (c : k < 3) : alen (L + 1 + k) = some (lln k : Int) := by
  obtain ⟨a, b⟩ := ld_S h c
  unfold alen
  rw [if_pos (by omega), b]
theorem ld_n0 {m : Mem} {L : Nat} {l : Lnd} (h : LD m L l) : alen (L + 1 + 0) = some 42 := ld_len h.1 (by decide)
theorem ld_n1 {m : Mem} {L : Nat} {l : Lnd} (h : LD m L l) : alen (L + 1 + 1) = some 10 := ld_len h.1 (by decide)
theorem ld_n2 {m : Mem} {L : Nat} {l : Lnd} (h : LD m L l) : alen (L + 1 + 2) = some 5 := ld_len h.1 (by decide)
theorem ld_I {m : Mem} {L : Nat} {l : Lnd} (h : LD m L l) : getI 1 3 L m = some (l 3 0) := by
  have q := (ld_c L (isLd_lt h.1) h.1).1
  simp only [Bool.and_eq_true, beq_iff_eq] at q
  unfold getI
  rw [if_pos ⟨q.1, by omega⟩, h.2.2]
/-- an island's size -/
def Sz (I : Isl) : Prop := 0 ≤ I 0 0 ∧ I 0 0 ≤ 7 ∧ 0 ≤ I 1 0 ∧ I 1 0 ≤ 6 ∧ (I 0 0 = 0 ∧ I 1 0 = 0 ∨ 2 ≤ I 0 0 ∧ 2 ≤ I 1 0) ∧ 0 ≤ nC I ∧ nC I ≤ 42
theorem sz_c {I : Isl} (h : Sz I) {c : Int} (c1 : 0 ≤ c) (c2 : c < nC I) : 2 ≤ I 0 0 ∧ 2 ≤ I 1 0 := by
  obtain ⟨a1, a2, a3, a4, a5, a6, a7⟩ := h
  rcases a5 with ⟨e, f⟩ | e
  · unfold nC at c2
    rw [e] at c2
    omega
  · exact e
theorem cell_in {I : Isl} {x y : Int} (h0 : 0 ≤ x) (h1 : x < I 0 0) (h2 : 0 ≤ y) (h3 : y < I 1 0) : 0 ≤ y * I 0 0 + x ∧ y * I 0 0 + x < nC I := by
  have a : 0 ≤ y * I 0 0 := Int.mul_nonneg h2 (by omega)
  have b : y * I 0 0 ≤ (I 1 0 - 1) * I 0 0 := Int.mul_le_mul_of_nonneg_right (by omega) (by omega)
  have c : (I 1 0 - 1) * I 0 0 = nC I - I 0 0 := by
    unfold nC
    rw [Int.sub_mul, Int.mul_comm (I 1 0), Int.one_mul]
  omega
theorem cellAt_in {I : Isl} (x y : Int) : cellAt I x y = -1 ∨ 0 ≤ cellAt I x y ∧ cellAt I x y < nC I := by
  unfold cellAt
  by_cases q : 0 ≤ x ∧ x < I 0 0 ∧ 0 ≤ y ∧ y < I 1 0
  · rw [if_pos q]; exact Or.inr (cell_in q.1 q.2.1 q.2.2.1 q.2.2.2)
  · rw [if_neg q]; exact Or.inl rfl
theorem xy_of {I : Isl} (h : Sz I) {c : Int} (c1 : 0 ≤ c) (c2 : c < nC I) : 0 ≤ c % I 0 0 ∧ c % I 0 0 < I 0 0 ∧ 0 ≤ c / I 0 0 ∧ c / I 0 0 < I 1 0 ∧ (c / I 0 0) * I 0 0 + c % I 0 0 = c := by
  have w := sz_c h c1 c2
  refine ⟨Int.emod_nonneg _ (by omega), Int.emod_lt_of_pos _ (by omega), Int.ediv_nonneg c1 (by omega), ?_, ?_⟩
  · refine Int.ediv_lt_of_lt_mul (by omega) ?_
    unfold nC at c2
    rw [Int.mul_comm]
    exact c2
  · rw [Int.mul_comm]; exact Int.mul_ediv_add_emod c (I 0 0)
