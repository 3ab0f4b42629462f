/-! own words and names by their keys -/
/-- the first j letters by five bits -/
def kf (L : List Nat) : Nat → Nat
  | 0 => 0
  | j + 1 => kf L j * 32 + L.getD j 0
def okLt (L : List Nat) : Prop := ∀ c ∈ L, 1 ≤ c ∧ c ≤ 26
theorem okLt_D {L : List Nat} (h : okLt L) (j : Nat) : (j < L.length → 1 ≤ L.getD j 0 ∧ L.getD j 0 ≤ 26) ∧ (L.length ≤ j → L.getD j 0 = 0) := by
  rw [List.getD_eq_getElem?_getD]
  constructor
  · intro q
    rw [List.getElem?_eq_getElem q]
    exact h _ (List.getElem_mem q)
  · intro q
    rw [List.getElem?_eq_none q]
    rfl
theorem kf_lt {L : List Nat} (h : okLt L) : ∀ j, kf L j < 32 ^ j := by
  intro j
  induction j with
  | zero => exact (by decide : 0 < 32 ^ 0)
  | succ j ih =>
    show kf L j * 32 + L.getD j 0 < 32 ^ (j + 1)
    have a := okLt_D h j
    have b : L.getD j 0 < 32 := by
      by_cases q : j < L.length
      · have := a.1 q; omega
      · have := a.2 (by omega); omega
    rw [Nat.pow_succ]
    omega
theorem kf_inj {L M : List Nat} (h : okLt L) (g : okLt M) : ∀ j, kf L j = kf M j → ∀ i, i < j → L.getD i 0 = M.getD i 0 := by
  intro j
  induction j with
  | zero => intro _ i hi; omega
  | succ j ih =>
    intro e i hi
    have e2 : kf L j * 32 + L.getD j 0 = kf M j * 32 + M.getD j 0 := e
    have a := okLt_D h j
    have b := okLt_D g j
    have a1 : L.getD j 0 < 32 := by
      by_cases q : j < L.length
      · have := a.1 q; omega
      · have := a.2 (by omega); omega
    have b1 : M.getD j 0 < 32 := by
      by_cases q : j < M.length
      · have := b.1 q; omega
      · have := b.2 (by omega); omega
    by_cases y : i = j
    · rw [y]; omega
    · exact ih (by omega) i (by omega)
theorem lst_ext {L M : List Nat} (h : okLt L) (g : okLt M) {n : Nat} (hL : L.length ≤ n) (hM : M.length ≤ n) (e : ∀ i, i < n → L.getD i 0 = M.getD i 0) : L = M := by
  have el : L.length = M.length := by
    rcases Nat.lt_trichotomy L.length M.length with q | q | q
    · have a := (okLt_D h L.length).2 (Nat.le_refl _)
      have b := (okLt_D g L.length).1 q
      have := e L.length (by omega)
      omega
    · exact q
    · have a := (okLt_D g M.length).2 (Nat.le_refl _)
      have b := (okLt_D h M.length).1 q
      have := e M.length (by omega)
      omega
  refine List.ext_getElem el fun i h1 h2 => ?_
  have := e i (by omega)
  rw [List.getD_eq_getElem?_getD, List.getD_eq_getElem?_getD, List.getElem?_eq_getElem h1, List.getElem?_eq_getElem h2] at this
  exact this
theorem kf_pk5 {L : List Nat} (h6 : L.length ≤ 6) : kf L 6 = pk5 L := by
  match L, h6 with
  | [], _ => rfl
  | [a], _ => rfl
  | [a, b], _ => rfl
  | [a, b, c], _ => rfl
  | [a, b, c, d], _ => rfl
  | [a, b, c, d, e], _ => rfl
  | [a, b, c, d, e, f], _ => rfl
theorem owT_ok : ∀ i, i < 27 → okLt (owT.getD i []) ∧ (owT.getD i []).length ≤ 7 ∧ 2 ≤ (owT.getD i []).length := by
  unfold okLt
  decide
theorem owT_k5 : ∀ i, i < 27 → mo LM 7 i = ((kf (owT.getD i []) 7 : Nat) : Int) := by decide +kernel
theorem ow_k5 {L : List Nat} (h : okLt L) (h7 : L.length ≤ 7) {i : Nat} (hi : i < 27) : kf (owT.getD i []) 7 = kf L 7 ↔ owT.getD i [] = L := by
  obtain ⟨a, b, c⟩ := owT_ok i hi
  constructor
  · intro e
    exact lst_ext a h b h7 (kf_inj a h 7 e)
  · intro e; rw [e]
/-- the class's own word -/
theorem x_ownWord {N : Nat} (hN : 2000 ≤ N) {m : Mem} (r : Refs m) (ks : Kst m) {L : List Nat} (h : okLt L) (h7 : L.length ≤ 7) : X8_ownWord N 6 ((kf L 7 : Nat) : Int) m = some (ow L) := by
  unfold X8_ownWord
  rw [if_pos (by decide +kernel)]
  refine lp_0 (fun i => owN L i = -1) (fun F i => X8_ownWord_L2 N m F 6 ((kf L 7 : Nat) : Int) i) 27 _ rfl (fun F i hi hS ih => ?_) (fun F hS => ?_) N (by omega)
  · refine wp_eq ?_
    show Wp (X8_ownWord_L2_b N m (X8_ownWord_L2 N m F) 6 ((kf L 7 : Nat) : Int) i) _
    unfold X8_ownWord_L2_b
    rw [if_neg (by omega)]
    refine wp_b (rc r 7 (by decide +kernel)) ?_
    refine wp_b (arL 27 (by decide +kernel) (by omega) (by omega) m) ?_
    rw [Int.toNat_natCast, ks.2 i hi, owT_k5 i hi]
    have st : owN L (i + 1) = if owT.getD i [] = L then (i : Int) else -1 := by
      show (if owN L i = -1 then _ else _) = _
      rw [if_pos hS]
    by_cases q : owT.getD i [] = L
    · rw [if_neg (fun u => u (lcm_eq.mpr (by rw [q])))]
      refine wp_some ?_
      rw [if_pos q] at st
      have e : ow L = owN L (i + 1 + (26 - i)) := by rw [show i + 1 + (26 - i) = 27 from by omega]; rfl
      rw [e]
      have more : ∀ d, owN L (i + 1 + d) = i := by
        intro d
        induction d with
        | zero => exact st
        | succ d ih =>
          show (if owN L (i + 1 + d) = -1 then _ else owN L (i + 1 + d)) = _
          rw [ih, if_neg (by omega)]
      exact (more _).symm
    · have ne : ¬lcm ((kf (owT.getD i []) 7 : Nat) : Int) ((kf L 7 : Nat) : Int) = 0 := fun u => q ((ow_k5 h h7 hi).mp (by have := lcm_eq.mp u; omega))
      rw [if_pos ne]
      refine wp_of (ih _ (by first | omega | (simp (disch := omega) only [wI_of2] <;> omega)) ?_) rfl
      rw [st, if_neg q]
  · refine wp_eq ?_
    show Wp (X8_ownWord_L2_b N m (X8_ownWord_L2 N m F) 6 ((kf L 7 : Nat) : Int) 27) _
    unfold X8_ownWord_L2_b
    rw [if_pos (by decide)]
    exact wp_some hS.symm
