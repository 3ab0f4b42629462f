/-! the reference looks a sign further: words by eight bits -/
def w8 (T : Nat → Int) (a : Nat) : Nat → Nat
  | 0 => 0
  | j + 1 => w8 T a j * 256 + (T (a + j)).toNat
theorem w8_lt {T : Nat → Int} {a : Nat} : ∀ j, (∀ i, i < j → isLt (T (a + i))) → j ≤ 8 → w8 T a j < 256 ^ j ∧ (1 ≤ j → w8 T a j < 123 * 256 ^ (j - 1)) := by
  intro j
  induction j with
  | zero => intro _ _; exact ⟨(by decide : 0 < 256 ^ 0), fun u => absurd u (by decide)⟩
  | succ j ih =>
    intro h hj
    obtain ⟨i1, i2⟩ := ih (fun i hi => h i (by omega)) (by omega)
    have hl := h j (by omega)
    have e : w8 T a (j + 1) = w8 T a j * 256 + (T (a + j)).toNat := rfl
    rw [e]
    refine ⟨by rw [Nat.pow_succ]; omega, fun _ => ?_⟩
    rw [show j + 1 - 1 = j from rfl]
    cases j with
    | zero =>
      have z : w8 T a 0 = 0 := rfl
      rw [z]
      show 0 * 256 + (T (a + 0)).toNat < 123 * 1
      omega
    | succ j =>
      have i3 := i2 (by omega)
      rw [show j + 1 - 1 = j from rfl] at i3
      rw [Nat.pow_succ]
      omega
theorem w8_pk {T : Nat → Int} {a : Nat} : ∀ j, (∀ i, i < j → isLt (T (a + i))) → w8 T a j = pk8 (lts T a j) := by
  intro j
  induction j with
  | zero => intro _; rfl
  | succ j ih =>
    intro h
    have hl := h j (by omega)
    rw [lts_s, pk8_snoc, ← ih (fun i hi => h i (by omega))]
    show w8 T a j * 256 + (T (a + j)).toNat = _
    omega
theorem pk8_inj : ∀ (n : Nat) (L M : List Nat), L.length = n → okLt L → okLt M → pk8 L = pk8 M → L = M := by
  intro n
  induction n with
  | zero =>
    intro L M hn _ g e
    have eL : L = [] := List.length_eq_zero_iff.mp hn
    subst eL
    by_cases q : M = []
    · exact q.symm
    · exfalso
      have em := (List.dropLast_concat_getLast q).symm
      have hc := g (M.getLast q) (List.getLast_mem q)
      rw [em, pk8_snoc] at e
      have z : pk8 [] = 0 := rfl
      omega
  | succ n ih =>
    intro L M hn h g e
    have qL : ¬L = [] := fun u => by rw [u] at hn; simp at hn
    have eL := (List.dropLast_concat_getLast qL).symm
    have hcL := h (L.getLast qL) (List.getLast_mem qL)
    by_cases q : M = []
    · exfalso
      rw [q, eL, pk8_snoc] at e
      have z : pk8 [] = 0 := rfl
      omega
    · have em := (List.dropLast_concat_getLast q).symm
      have hcM := g (M.getLast q) (List.getLast_mem q)
      have e' := e
      rw [eL, em, pk8_snoc, pk8_snoc] at e'
      have i := ih L.dropLast M.dropLast (by rw [List.length_dropLast]; omega) (fun c hc => h c ((List.dropLast_sublist _).subset hc)) (fun c hc => g c ((List.dropLast_sublist _).subset hc)) (by omega)
      rw [eL, em, i, show L.getLast qL = M.getLast q from by omega]
abbrev ow8 (w : Int) : Prop := w = 115944460480100 ∨ w = 114784769370228 ∨ w = 24948 ∨ w = 2002873452 ∨ w = 448546567013 ∨ w = 27981967289315950 ∨ w = 427021005928 ∨ w = 499850634611 ∨ w = 495874698853 ∨ w = 7824738 ∨ w = 7564153 ∨ w = 6579575 ∨ w = 431416239475 ∨ w = 110442557893491 ∨ w = 109317377582201 ∨ w = 513020620391 ∨ w = 1869636974 ∨ w = 1751738216 ∨ w = 1668246628 ∨ w = 1752135026 ∨ w = 427021006180 ∨ w = 2003398244 ∨ w = 495757257573 ∨ w = 1852137842 ∨ w = 7824756 ∨ w = 7170414 ∨ w = 7168376
theorem owT_8 : ∀ i, i < 27 → ow8 ((pk8 (owT.getD i []) : Nat) : Int) := by decide +kernel
theorem ow8_i : ∀ w : Int, ow8 w → ∃ i : Nat, i < 27 ∧ w = ((pk8 (owT.getD i []) : Nat) : Int) := by
  intro w h
  rcases h with h | h | h | h | h | h | h | h | h | h | h | h | h | h | h | h | h | h | h | h | h | h | h | h | h | h | h <;> subst h
  · exact ⟨0, by decide, by decide +kernel⟩
  · exact ⟨1, by decide, by decide +kernel⟩
  · exact ⟨2, by decide, by decide +kernel⟩
  · exact ⟨3, by decide, by decide +kernel⟩
  · exact ⟨4, by decide, by decide +kernel⟩
  · exact ⟨5, by decide, by decide +kernel⟩
  · exact ⟨6, by decide, by decide +kernel⟩
  · exact ⟨7, by decide, by decide +kernel⟩
  · exact ⟨8, by decide, by decide +kernel⟩
  · exact ⟨9, by decide, by decide +kernel⟩
  · exact ⟨10, by decide, by decide +kernel⟩
  · exact ⟨11, by decide, by decide +kernel⟩
  · exact ⟨12, by decide, by decide +kernel⟩
  · exact ⟨13, by decide, by decide +kernel⟩
  · exact ⟨14, by decide, by decide +kernel⟩
  · exact ⟨15, by decide, by decide +kernel⟩
  · exact ⟨16, by decide, by decide +kernel⟩
  · exact ⟨17, by decide, by decide +kernel⟩
  · exact ⟨18, by decide, by decide +kernel⟩
  · exact ⟨19, by decide, by decide +kernel⟩
  · exact ⟨20, by decide, by decide +kernel⟩
  · exact ⟨21, by decide, by decide +kernel⟩
  · exact ⟨22, by decide, by decide +kernel⟩
  · exact ⟨23, by decide, by decide +kernel⟩
  · exact ⟨24, by decide, by decide +kernel⟩
  · exact ⟨25, by decide, by decide +kernel⟩
  · exact ⟨26, by decide, by decide +kernel⟩
theorem owN_at {L : List Nat} {i : Nat} (hi : i < 27) (e : owT.getD i [] = L) : ¬ow L = -1 := by
  rcases owN_in L 27 with ⟨_, h⟩ | ⟨j, _, e2, _⟩
  · exact absurd e (h i hi)
  · unfold ow; omega
theorem ow8_ow {L : List Nat} (h : okLt L) : ow8 ((pk8 L : Nat) : Int) ↔ ¬ow L = -1 := by
  constructor
  · intro u
    obtain ⟨i, hi, e⟩ := ow8_i _ u
    exact owN_at hi (pk8_inj _ _ _ rfl (owT_ok i hi).1 h (by omega))
  · intro u
    obtain ⟨_, i, hi, _, e⟩ := ow_len u
    rw [← e]
    exact owT_8 i hi
theorem isOwn_c : ∀ i, i < 27 → X11_isOwn 264 ((pk8 (owT.getD i []) : Nat) : Int) (fun _ _ => 0) = some 1 := by decide +kernel
theorem m_isOwn (w : Int) (m : Mem) : X11_isOwn 264 w m = some (bi (ow8 w)) := by
  by_cases h : ow8 w
  · obtain ⟨i, hi, e⟩ := ow8_i w h
    rw [← bi_t h, e]
    exact isOwn_c i hi
  · refine wp_eq ?_
    unfold X11_isOwn
    refine wp_k k264 ?_
    rw [← bi_f h]
    simp only [ow8, not_or] at h
    obtain ⟨h1, h2, h3, h4, h5, h6, h7, h8, h9, h10, h11, h12, h13, h14, h15, h16, h17, h18, h19, h20, h21, h22, h23, h24, h25, h26, h27⟩ := h
    simp only [lcm_eq, h1, h2, h3, h4, h5, h6, h7, h8, h9, h10, h11, h12, h13, h14, h15, h16, h17, h18, h19, h20, h21, h22, h23, h24, h25, h26, h27, not_false_eq_true, if_true, if_false]
    exact wp_z0 rfl
theorem lor_8 {w c : Nat} (hw : w < 35000000000000000) (hc : c < 256) : lor (lshl (w : Int) 8) (c : Int) = ((w * 256 + c : Nat) : Int) := by
  have e1 : lshl (w : Int) 8 = ((w * 256 : Nat) : Int) := by
    show wL ((w : Int) * 2 ^ sL 8) = _
    rw [show (2 : Int) ^ sL 8 = 256 from by decide, wL_of2 (by omega) (by omega)]
    omega
  rw [e1]
  have e : lor ((w * 256 : Nat) : Int) (c : Int) = (BitVec.ofInt 64 ((w * 256 : Nat) : Int) ||| BitVec.ofInt 64 (c : Int)).toInt := rfl
  have n1 : (BitVec.ofInt 64 ((w * 256 : Nat) : Int)).toNat = w * 256 := by rw [BitVec.toNat_ofInt]; omega
  have n2 : (BitVec.ofInt 64 (c : Int)).toNat = c := by rw [BitVec.toNat_ofInt]; omega
  have s := Nat.shiftLeft_add_eq_or_of_lt (b := c) (i := 8) (by omega) w
  rw [Nat.shiftLeft_eq] at s
  have n3 : (BitVec.ofInt 64 ((w * 256 : Nat) : Int) ||| BitVec.ofInt 64 (c : Int)).toNat = w * 256 + c := by
    rw [BitVec.toNat_or, n1, n2]
    exact s.symm
  rw [e, BitVec.toInt_eq_toNat_of_lt (by rw [n3]; omega), n3]
theorem m_isLetter (x : Int) (m : Mem) : X11_isLetter x m = some (bi (isLt x)) := by
  refine wp_eq ?_
  unfold X11_isLetter
  by_cases q : x < 97
  · rw [if_pos q]; exact wp_z0 (bi_f (by omega))
  · rw [if_neg q]
    by_cases q2 : 122 < x
    · rw [if_pos q2]; exact wp_z0 (bi_f (by omega))
    · rw [if_neg q2]; exact wp_z1 (bi_t (by omega))
theorem m_isDigit (x : Int) (m : Mem) : X11_isDigit x m = some (bi (isDg x)) := by
  refine wp_eq ?_
  unfold X11_isDigit
  by_cases q : x < 48
  · rw [if_pos q]; exact wp_z0 (bi_f (by omega))
  · rw [if_neg q]
    by_cases q2 : 57 < x
    · rw [if_pos q2]; exact wp_z0 (bi_f (by omega))
    · rw [if_neg q2]; exact wp_z1 (bi_t (by omega))
