/-! a statement is read by both -/
variable {T : Nat → Int} {len K D B S So p p2 ko f0 : Nat} {co : Int → Int} {s : Int} {m0 n0 : Mem} {I : Isl} {l : Lnd}
theorem isWx {n : Mem} {a : Nat} {w : Int} (rs : RS n T len a) (e : rwd T len a = w) (c : Int) (ne : ¬w = c) : X11_isWord 264 c n = some 0 := isW_n rs (fun u => ne (by rw [← e]; exact u.2))
theorem some_id {α : Type} (x : Option α) : (x.bind fun p => some p) = x := by cases x <;> rfl
/-- own words, as both know them -/
theorem own_c {n : Mem} {a : Nat} (rs : RS n T len a) (i : Nat) (hi : i < 27) (kd : kdP T len a = (2, (i : Int))) : rlx T len a = -1 ∧ rsg T len a = 1 ∧ rwd T len a = ((pk8 (owT.getD i []) : Nat) : Int) ∧ a < len := by
  have al := rs.2.2.2.2.1
  have u := (own_same (T := T) al hi).mp kd
  exact ⟨u.1, u.2.1, u.2.2, rs_end rs (by have := u.2.1; omega)⟩
theorem dsp_1 {N : Nat} {n : Mem} {a : Nat} (rs : RS n T len a) (kd : kdP T len a = (2, 1)) : X11_statement N 264 n = X11_heighten N 264 n := by
  obtain ⟨rl, s1, e, _⟩ := own_c rs 1 (by decide) kd
  rw [show ((pk8 (owT.getD 1 []) : Nat) : Int) = 114784769370228 from by decide +kernel] at e
  unfold X11_statement
  rw [if_pos k264, m_lex1 rs rl, Option.bind_some, g264 (by decide), Option.bind_some, rs.2.1, if_pos (by decide)]
  rw [isW_y rs s1 e, Option.bind_some, if_neg (by decide), some_id]
theorem dsp_3 {N : Nat} {n : Mem} {a : Nat} (rs : RS n T len a) (kd : kdP T len a = (2, 3)) : X11_statement N 264 n = X11_walling N 264 n := by
  obtain ⟨rl, s1, e, _⟩ := own_c rs 3 (by decide) kd
  rw [show ((pk8 (owT.getD 3 []) : Nat) : Int) = 2002873452 from by decide +kernel] at e
  unfold X11_statement
  rw [if_pos k264, m_lex1 rs rl, Option.bind_some, g264 (by decide), Option.bind_some, rs.2.1, if_pos (by decide)]
  rw [isWx rs e 114784769370228 (by decide), Option.bind_some, if_pos rfl]
  rw [isW_y rs s1 e, Option.bind_some, if_neg (by decide), some_id]
theorem dsp_4 {N : Nat} {n : Mem} {a : Nat} (rs : RS n T len a) (kd : kdP T len a = (2, 4)) : X11_statement N 264 n = X11_housing N 264 n := by
  obtain ⟨rl, s1, e, _⟩ := own_c rs 4 (by decide) kd
  rw [show ((pk8 (owT.getD 4 []) : Nat) : Int) = 448546567013 from by decide +kernel] at e
  unfold X11_statement
  rw [if_pos k264, m_lex1 rs rl, Option.bind_some, g264 (by decide), Option.bind_some, rs.2.1, if_pos (by decide)]
  rw [isWx rs e 114784769370228 (by decide), Option.bind_some, if_pos rfl]
  rw [isWx rs e 2002873452 (by decide), Option.bind_some, if_pos rfl]
  rw [isW_y rs s1 e, Option.bind_some, if_neg (by decide), some_id]
theorem dsp_5 {N : Nat} {n : Mem} {a : Nat} (rs : RS n T len a) (kd : kdP T len a = (2, 5)) : X11_statement N 264 n = X11_cisterning N 264 n := by
  obtain ⟨rl, s1, e, _⟩ := own_c rs 5 (by decide) kd
  rw [show ((pk8 (owT.getD 5 []) : Nat) : Int) = 27981967289315950 from by decide +kernel] at e
  unfold X11_statement
  rw [if_pos k264, m_lex1 rs rl, Option.bind_some, g264 (by decide), Option.bind_some, rs.2.1, if_pos (by decide)]
  rw [isWx rs e 114784769370228 (by decide), Option.bind_some, if_pos rfl]
  rw [isWx rs e 2002873452 (by decide), Option.bind_some, if_pos rfl]
  rw [isWx rs e 448546567013 (by decide), Option.bind_some, if_pos rfl]
  rw [isW_y rs s1 e, Option.bind_some, if_neg (by decide), some_id]
theorem dsp_6 {N : Nat} {n : Mem} {a : Nat} (rs : RS n T len a) (kd : kdP T len a = (2, 6)) : X11_statement N 264 n = X11_thinging N 264 0 n := by
  obtain ⟨rl, s1, e, _⟩ := own_c rs 6 (by decide) kd
  rw [show ((pk8 (owT.getD 6 []) : Nat) : Int) = 427021005928 from by decide +kernel] at e
  unfold X11_statement
  rw [if_pos k264, m_lex1 rs rl, Option.bind_some, g264 (by decide), Option.bind_some, rs.2.1, if_pos (by decide)]
  rw [isWx rs e 114784769370228 (by decide), Option.bind_some, if_pos rfl]
  rw [isWx rs e 2002873452 (by decide), Option.bind_some, if_pos rfl]
  rw [isWx rs e 448546567013 (by decide), Option.bind_some, if_pos rfl]
  rw [isWx rs e 27981967289315950 (by decide), Option.bind_some, if_pos rfl]
  rw [isW_y rs s1 e, Option.bind_some, if_neg (by decide), some_id]
theorem dsp_8 {N : Nat} {n : Mem} {a : Nat} (rs : RS n T len a) (kd : kdP T len a = (2, 8)) : X11_statement N 264 n = X11_thinging N 264 1 n := by
  obtain ⟨rl, s1, e, _⟩ := own_c rs 8 (by decide) kd
  rw [show ((pk8 (owT.getD 8 []) : Nat) : Int) = 495874698853 from by decide +kernel] at e
  unfold X11_statement
  rw [if_pos k264, m_lex1 rs rl, Option.bind_some, g264 (by decide), Option.bind_some, rs.2.1, if_pos (by decide)]
  rw [isWx rs e 114784769370228 (by decide), Option.bind_some, if_pos rfl]
  rw [isWx rs e 2002873452 (by decide), Option.bind_some, if_pos rfl]
  rw [isWx rs e 448546567013 (by decide), Option.bind_some, if_pos rfl]
  rw [isWx rs e 27981967289315950 (by decide), Option.bind_some, if_pos rfl]
  rw [isWx rs e 427021005928 (by decide), Option.bind_some, if_pos rfl]
  rw [isW_y rs s1 e, Option.bind_some, if_neg (by decide), some_id]
theorem dsp_9 {N : Nat} {n : Mem} {a : Nat} (rs : RS n T len a) (kd : kdP T len a = (2, 9)) : X11_statement N 264 n = X11_thinging N 264 2 n := by
  obtain ⟨rl, s1, e, _⟩ := own_c rs 9 (by decide) kd
  rw [show ((pk8 (owT.getD 9 []) : Nat) : Int) = 7824738 from by decide +kernel] at e
  unfold X11_statement
  rw [if_pos k264, m_lex1 rs rl, Option.bind_some, g264 (by decide), Option.bind_some, rs.2.1, if_pos (by decide)]
  rw [isWx rs e 114784769370228 (by decide), Option.bind_some, if_pos rfl]
  rw [isWx rs e 2002873452 (by decide), Option.bind_some, if_pos rfl]
  rw [isWx rs e 448546567013 (by decide), Option.bind_some, if_pos rfl]
  rw [isWx rs e 27981967289315950 (by decide), Option.bind_some, if_pos rfl]
  rw [isWx rs e 427021005928 (by decide), Option.bind_some, if_pos rfl]
  rw [isWx rs e 495874698853 (by decide), Option.bind_some, if_pos rfl]
  rw [isW_y rs s1 e, Option.bind_some, if_neg (by decide), some_id]
theorem dsp_10 {N : Nat} {n : Mem} {a : Nat} (rs : RS n T len a) (kd : kdP T len a = (2, 10)) : X11_statement N 264 n = X11_skying N 264 n := by
  obtain ⟨rl, s1, e, _⟩ := own_c rs 10 (by decide) kd
  rw [show ((pk8 (owT.getD 10 []) : Nat) : Int) = 7564153 from by decide +kernel] at e
  unfold X11_statement
  rw [if_pos k264, m_lex1 rs rl, Option.bind_some, g264 (by decide), Option.bind_some, rs.2.1, if_pos (by decide)]
  rw [isWx rs e 114784769370228 (by decide), Option.bind_some, if_pos rfl]
  rw [isWx rs e 2002873452 (by decide), Option.bind_some, if_pos rfl]
  rw [isWx rs e 448546567013 (by decide), Option.bind_some, if_pos rfl]
  rw [isWx rs e 27981967289315950 (by decide), Option.bind_some, if_pos rfl]
  rw [isWx rs e 427021005928 (by decide), Option.bind_some, if_pos rfl]
  rw [isWx rs e 495874698853 (by decide), Option.bind_some, if_pos rfl]
  rw [isWx rs e 7824738 (by decide), Option.bind_some, if_pos rfl]
  rw [isW_y rs s1 e, Option.bind_some, if_neg (by decide), some_id]
theorem dsp_11 {N : Nat} {n : Mem} {a : Nat} (rs : RS n T len a) (kd : kdP T len a = (2, 11)) : X11_statement N 264 n = X11_dewing N 264 n := by
  obtain ⟨rl, s1, e, _⟩ := own_c rs 11 (by decide) kd
  rw [show ((pk8 (owT.getD 11 []) : Nat) : Int) = 6579575 from by decide +kernel] at e
  unfold X11_statement
  rw [if_pos k264, m_lex1 rs rl, Option.bind_some, g264 (by decide), Option.bind_some, rs.2.1, if_pos (by decide)]
  rw [isWx rs e 114784769370228 (by decide), Option.bind_some, if_pos rfl]
  rw [isWx rs e 2002873452 (by decide), Option.bind_some, if_pos rfl]
  rw [isWx rs e 448546567013 (by decide), Option.bind_some, if_pos rfl]
  rw [isWx rs e 27981967289315950 (by decide), Option.bind_some, if_pos rfl]
  rw [isWx rs e 427021005928 (by decide), Option.bind_some, if_pos rfl]
  rw [isWx rs e 495874698853 (by decide), Option.bind_some, if_pos rfl]
  rw [isWx rs e 7824738 (by decide), Option.bind_some, if_pos rfl]
  rw [isWx rs e 7564153 (by decide), Option.bind_some, if_pos rfl]
  rw [isW_y rs s1 e, Option.bind_some, if_neg (by decide), some_id]
theorem dsp_12 {N : Nat} {n : Mem} {a : Nat} (rs : RS n T len a) (kd : kdP T len a = (2, 12)) : X11_statement N 264 n = X11_drying N 264 n := by
  obtain ⟨rl, s1, e, _⟩ := own_c rs 12 (by decide) kd
  rw [show ((pk8 (owT.getD 12 []) : Nat) : Int) = 431416239475 from by decide +kernel] at e
  unfold X11_statement
  rw [if_pos k264, m_lex1 rs rl, Option.bind_some, g264 (by decide), Option.bind_some, rs.2.1, if_pos (by decide)]
  rw [isWx rs e 114784769370228 (by decide), Option.bind_some, if_pos rfl]
  rw [isWx rs e 2002873452 (by decide), Option.bind_some, if_pos rfl]
  rw [isWx rs e 448546567013 (by decide), Option.bind_some, if_pos rfl]
  rw [isWx rs e 27981967289315950 (by decide), Option.bind_some, if_pos rfl]
  rw [isWx rs e 427021005928 (by decide), Option.bind_some, if_pos rfl]
  rw [isWx rs e 495874698853 (by decide), Option.bind_some, if_pos rfl]
  rw [isWx rs e 7824738 (by decide), Option.bind_some, if_pos rfl]
  rw [isWx rs e 7564153 (by decide), Option.bind_some, if_pos rfl]
  rw [isWx rs e 6579575 (by decide), Option.bind_some, if_pos rfl]
  rw [isW_y rs s1 e, Option.bind_some, if_neg (by decide), some_id]
theorem dsp_13 {N : Nat} {n : Mem} {a : Nat} (rs : RS n T len a) (kd : kdP T len a = (2, 13)) : X11_statement N 264 n = X11_telling N 264 0 n := by
  obtain ⟨rl, s1, e, _⟩ := own_c rs 13 (by decide) kd
  rw [show ((pk8 (owT.getD 13 []) : Nat) : Int) = 110442557893491 from by decide +kernel] at e
  unfold X11_statement
  rw [if_pos k264, m_lex1 rs rl, Option.bind_some, g264 (by decide), Option.bind_some, rs.2.1, if_pos (by decide)]
  rw [isWx rs e 114784769370228 (by decide), Option.bind_some, if_pos rfl]
  rw [isWx rs e 2002873452 (by decide), Option.bind_some, if_pos rfl]
  rw [isWx rs e 448546567013 (by decide), Option.bind_some, if_pos rfl]
  rw [isWx rs e 27981967289315950 (by decide), Option.bind_some, if_pos rfl]
  rw [isWx rs e 427021005928 (by decide), Option.bind_some, if_pos rfl]
  rw [isWx rs e 495874698853 (by decide), Option.bind_some, if_pos rfl]
  rw [isWx rs e 7824738 (by decide), Option.bind_some, if_pos rfl]
  rw [isWx rs e 7564153 (by decide), Option.bind_some, if_pos rfl]
  rw [isWx rs e 6579575 (by decide), Option.bind_some, if_pos rfl]
  rw [isWx rs e 431416239475 (by decide), Option.bind_some, if_pos rfl]
  rw [isW_y rs s1 e, Option.bind_some, if_neg (by decide), some_id]
theorem dsp_14 {N : Nat} {n : Mem} {a : Nat} (rs : RS n T len a) (kd : kdP T len a = (2, 14)) : X11_statement N 264 n = X11_telling N 264 1 n := by
  obtain ⟨rl, s1, e, _⟩ := own_c rs 14 (by decide) kd
  rw [show ((pk8 (owT.getD 14 []) : Nat) : Int) = 109317377582201 from by decide +kernel] at e
  unfold X11_statement
  rw [if_pos k264, m_lex1 rs rl, Option.bind_some, g264 (by decide), Option.bind_some, rs.2.1, if_pos (by decide)]
  rw [isWx rs e 114784769370228 (by decide), Option.bind_some, if_pos rfl]
  rw [isWx rs e 2002873452 (by decide), Option.bind_some, if_pos rfl]
  rw [isWx rs e 448546567013 (by decide), Option.bind_some, if_pos rfl]
  rw [isWx rs e 27981967289315950 (by decide), Option.bind_some, if_pos rfl]
  rw [isWx rs e 427021005928 (by decide), Option.bind_some, if_pos rfl]
  rw [isWx rs e 495874698853 (by decide), Option.bind_some, if_pos rfl]
  rw [isWx rs e 7824738 (by decide), Option.bind_some, if_pos rfl]
  rw [isWx rs e 7564153 (by decide), Option.bind_some, if_pos rfl]
  rw [isWx rs e 6579575 (by decide), Option.bind_some, if_pos rfl]
  rw [isWx rs e 431416239475 (by decide), Option.bind_some, if_pos rfl]
  rw [isWx rs e 110442557893491 (by decide), Option.bind_some, if_pos rfl]
  rw [isW_y rs s1 e, Option.bind_some, if_neg (by decide), some_id]
theorem dsp_15 {N : Nat} {n : Mem} {a : Nat} (rs : RS n T len a) (kd : kdP T len a = (2, 15)) : X11_statement N 264 n = X11_telling N 264 2 n := by
  obtain ⟨rl, s1, e, _⟩ := own_c rs 15 (by decide) kd
  rw [show ((pk8 (owT.getD 15 []) : Nat) : Int) = 513020620391 from by decide +kernel] at e
  unfold X11_statement
  rw [if_pos k264, m_lex1 rs rl, Option.bind_some, g264 (by decide), Option.bind_some, rs.2.1, if_pos (by decide)]
  rw [isWx rs e 114784769370228 (by decide), Option.bind_some, if_pos rfl]
  rw [isWx rs e 2002873452 (by decide), Option.bind_some, if_pos rfl]
  rw [isWx rs e 448546567013 (by decide), Option.bind_some, if_pos rfl]
  rw [isWx rs e 27981967289315950 (by decide), Option.bind_some, if_pos rfl]
  rw [isWx rs e 427021005928 (by decide), Option.bind_some, if_pos rfl]
  rw [isWx rs e 495874698853 (by decide), Option.bind_some, if_pos rfl]
  rw [isWx rs e 7824738 (by decide), Option.bind_some, if_pos rfl]
  rw [isWx rs e 7564153 (by decide), Option.bind_some, if_pos rfl]
  rw [isWx rs e 6579575 (by decide), Option.bind_some, if_pos rfl]
  rw [isWx rs e 431416239475 (by decide), Option.bind_some, if_pos rfl]
  rw [isWx rs e 110442557893491 (by decide), Option.bind_some, if_pos rfl]
  rw [isWx rs e 109317377582201 (by decide), Option.bind_some, if_pos rfl]
  rw [isW_y rs s1 e, Option.bind_some, if_neg (by decide), some_id]
theorem dsp_no {N : Nat} {n : Mem} {a : Nat} (rs : RS n T len a) (al : a ≤ len) (no : ∀ i : Nat, (i = 1 ∨ 3 ≤ i ∧ i ≤ 6 ∨ 8 ≤ i ∧ i ≤ 15) → ¬kdP T len a = (2, (i : Int))) : X11_statement N 264 n = some (Bl n 1 (tkQ T len a)) := by
  by_cases rl : rlx T len a = -1
  · have nw : ∀ (i : Nat) (w : Int), (i = 1 ∨ 3 ≤ i ∧ i ≤ 6 ∨ 8 ≤ i ∧ i ≤ 15) → ((pk8 (owT.getD i []) : Nat) : Int) = w → X11_isWord 264 w n = some 0 := fun i w hi e => isW_n rs (fun u => no i hi ((own_same al (by omega)).mpr ⟨rl, u.1, by rw [e]; exact u.2⟩))
    unfold X11_statement
    rw [if_pos k264, m_lex1 rs rl, Option.bind_some, g264 (by decide), Option.bind_some, rs.2.1, if_pos (by decide)]
    rw [nw 1 114784769370228 (by decide) (by decide +kernel), Option.bind_some, if_pos rfl]
    rw [nw 3 2002873452 (by decide) (by decide +kernel), Option.bind_some, if_pos rfl]
    rw [nw 4 448546567013 (by decide) (by decide +kernel), Option.bind_some, if_pos rfl]
    rw [nw 5 27981967289315950 (by decide) (by decide +kernel), Option.bind_some, if_pos rfl]
    rw [nw 6 427021005928 (by decide) (by decide +kernel), Option.bind_some, if_pos rfl]
    rw [nw 8 495874698853 (by decide) (by decide +kernel), Option.bind_some, if_pos rfl]
    rw [nw 9 7824738 (by decide) (by decide +kernel), Option.bind_some, if_pos rfl]
    rw [nw 10 7564153 (by decide) (by decide +kernel), Option.bind_some, if_pos rfl]
    rw [nw 11 6579575 (by decide) (by decide +kernel), Option.bind_some, if_pos rfl]
    rw [nw 12 431416239475 (by decide) (by decide +kernel), Option.bind_some, if_pos rfl]
    rw [nw 13 110442557893491 (by decide) (by decide +kernel), Option.bind_some, if_pos rfl]
    rw [nw 14 109317377582201 (by decide) (by decide +kernel), Option.bind_some, if_pos rfl]
    rw [nw 15 513020620391 (by decide) (by decide +kernel), Option.bind_some, if_pos rfl]
    rw [g264 (by decide), Option.bind_some, rs.1.1, m_blame0 rs.2.1, Option.bind_some, tkQ_1 rl]
  · have fs := bl_fs n (k := 1) (by decide) (tkQ T len a)
    unfold X11_statement
    rw [if_pos k264, m_lex0 rs rl, Option.bind_some, g264 (by decide), Option.bind_some, if_neg (by unfold FS at fs; omega)]
theorem full_walling {N : Nat} {n : Mem} {a : Nat} (r : Refs n) (rs : RS n T len a) (hB : B = 0 ∨ B = 1) (i40 : n 264 40 = (B : Int)) (e : n 271 B = 12) : X11_walling N 264 n = some (Bl n 6 (a : Int)) := by
  unfold X11_walling
  rw [if_pos k264, gR19 r, Option.bind_some, g264 (by decide), Option.bind_some, i40, wld1 (by decide +kernel) hB n, Option.bind_some, e, if_neg (fun u => u rfl)]
  unfold X11_walling_J20
  rw [m_countsF rs (show ¬(1 : Int) = 0 from by decide), Option.bind_some, if_neg (fun u => u rfl)]
theorem full_housing {N : Nat} {n : Mem} {a : Nat} (r : Refs n) (rs : RS n T len a) (hB : B = 0 ∨ B = 1) (i40 : n 264 40 = (B : Int)) (e : n 272 B = 6) : X11_housing N 264 n = some (Bl n 6 (a : Int)) := by
  unfold X11_housing
  rw [if_pos k264, gR20 r, Option.bind_some, g264 (by decide), Option.bind_some, i40, wld1 (by decide +kernel) hB n, Option.bind_some, e, if_neg (fun u => u rfl)]
  unfold X11_housing_J20
  rw [m_countsF rs (show ¬(1 : Int) = 0 from by decide), Option.bind_some, if_neg (fun u => u rfl)]
theorem full_cisterning {N : Nat} {n : Mem} {a : Nat} (r : Refs n) (rs : RS n T len a) (hB : B = 0 ∨ B = 1) (i40 : n 264 40 = (B : Int)) (e : n 273 B = 5) : X11_cisterning N 264 n = some (Bl n 6 (a : Int)) := by
  unfold X11_cisterning
  rw [if_pos k264, gR21 r, Option.bind_some, g264 (by decide), Option.bind_some, i40, wld1 (by decide +kernel) hB n, Option.bind_some, e, if_neg (fun u => u rfl)]
  unfold X11_cisterning_J19
  rw [m_countsF rs (show ¬(1 : Int) = 0 from by decide), Option.bind_some, if_neg (fun u => u rfl)]
theorem full_thinging {N : Nat} {n : Mem} {a : Nat} (r : Refs n) (rs : RS n T len a) (hB : B = 0 ∨ B = 1) (i40 : n 264 40 = (B : Int)) (e : n 275 B = 10) (sort : Int) : X11_thinging N 264 sort n = some (Bl n 6 (a : Int)) := by
  unfold X11_thinging
  rw [if_pos k264, gR23 r, Option.bind_some, g264 (by decide), Option.bind_some, i40, wld1 (by decide +kernel) hB n, Option.bind_some, e, if_neg (fun u => u rfl)]
  unfold X11_thinging_J20
  rw [m_countsF rs (show ¬(1 : Int) = 0 from by decide), Option.bind_some, if_neg (fun u => u rfl)]
theorem full_dewing {N : Nat} {n : Mem} {a : Nat} (r : Refs n) (rs : RS n T len a) (hB : B = 0 ∨ B = 1) (i40 : n 264 40 = (B : Int)) (e : ¬n 280 B = -1) : X11_dewing N 264 n = some (Bl n 6 (a : Int)) := by
  unfold X11_dewing
  rw [if_pos k264, gR28 r, Option.bind_some, g264 (by decide), Option.bind_some, i40, wld1 (by decide +kernel) hB n, Option.bind_some, if_neg e]
  unfold X11_dewing_J19
  rw [m_countsF rs (show ¬(1 : Int) = 0 from by decide), Option.bind_some, if_neg (fun u => u rfl)]
theorem full_drying {N : Nat} {n : Mem} {a : Nat} (r : Refs n) (rs : RS n T len a) (hB : B = 0 ∨ B = 1) (i40 : n 264 40 = (B : Int)) (e : ¬n 282 B = -1) : X11_drying N 264 n = some (Bl n 6 (a : Int)) := by
  unfold X11_drying
  rw [if_pos k264, gR30 r, Option.bind_some, g264 (by decide), Option.bind_some, i40, wld1 (by decide +kernel) hB n, Option.bind_some, if_neg e]
  unfold X11_drying_J19
  rw [m_countsF rs (show ¬(1 : Int) = 0 from by decide), Option.bind_some, if_neg (fun u => u rfl)]
theorem st_dew {N : Nat} (hN : 4000 ≤ N) {m n : Mem} {a : Nat} (j : JI T len K D B m0 n0 m n a s I l) (k : kdP T len a = (2, 11)) (nf : nD I = 0) : Wp (sW 11 (fun m => (getR 5 16 D m).bind fun t80 => two (X6_sum N 10 5 t80 0 m)) m) (fun v => Wp (X11_dewing N 264 n) (fun n2 => Po2 T len K D B m0 n0 a s v n2)) := by
  obtain ⟨p, js, e11, ab⟩ := j
  have hB := js.2.2.1.1.1
  have i40 := js.2.2.1.1.2.1
  have em : n 280 B = -1 := by
    rcases js.2.2.1.2.2.2.2.2.2.2.1.1 with u | u
    · exact u.1
    · have := u.2.1; omega
  unfold X11_dewing
  refine wp_rk k264 ?_
  refine wp_r (gR28 p.2.1) ?_
  refine wp_r (g264 (by decide)) ?_
  rw [i40]
  refine wp_r (wld1 (by decide +kernel) hB n) ?_
  rw [em, if_pos rfl]
  unfold X11_dewing_J19
  refine wp_j (b_count (by omega) p js (i := 11) (by decide) (by decide) rfl k rfl) (fun v q hv => ?_)
  obtain ⟨v1, q1, p1, js1, lt1, _, e1⟩ := hv
  rw [v1, if_neg (by decide), q1, if_pos (by decide)]
  obtain ⟨⟨pd, sd1, sd2⟩, ld, rw', gw, cf, rf⟩ := id js1
  have hD := pd.1
  have f39 := rw'.2.2.2.2.2.2.2.2.2
  refine wp_b (show getR 5 16 D v.2 = some (D + 23) from pl_R p1.1 hD (k := 16) (by decide)) ?_
  refine wrap2 ?_
  have hsd := sd1.2.1
  rw [nf] at hsd
  rw [nf] at f39
  exact b_sumSt (p := 282) (p2 := 283) (co := I 24) (ko := nR I) (f0 := nR I) (x := 22) hN (Or.inl ⟨rfl, rfl, rfl, rfl, rfl, rfl, rfl, rfl, rfl⟩) p1 js1 (by rw [e1]; exact e11) sd2 hsd ⟨rw'.2.2.2.2.2.2.2.2.1.1, fun u => by have := rw'.2.2.2.2.2.2.2.2.1.2 u; omega⟩ (by omega) ⟨fun u => ⟨rfl, rfl⟩, fun u => absurd u (by decide)⟩ rfl (by omega) lt1
theorem st_dries {N : Nat} (hN : 4000 ≤ N) {m n : Mem} {a : Nat} (j : JI T len K D B m0 n0 m n a s I l) (k : kdP T len a = (2, 12)) (nf : nR I = 0) : Wp (sW 12 (fun m => (getR 5 17 D m).bind fun t80 => two (X6_sum N 10 5 t80 0 m)) m) (fun v => Wp (X11_drying N 264 n) (fun n2 => Po2 T len K D B m0 n0 a s v n2)) := by
  obtain ⟨p, js, e11, ab⟩ := j
  have hB := js.2.2.1.1.1
  have i40 := js.2.2.1.1.2.1
  have em : n 282 B = -1 := by
    rcases js.2.2.1.2.2.2.2.2.2.2.2.1.1 with u | u
    · exact u.1
    · have := u.2.1; omega
  unfold X11_drying
  refine wp_rk k264 ?_
  refine wp_r (gR30 p.2.1) ?_
  refine wp_r (g264 (by decide)) ?_
  rw [i40]
  refine wp_r (wld1 (by decide +kernel) hB n) ?_
  rw [em, if_pos rfl]
  unfold X11_drying_J19
  refine wp_j (b_count (by omega) p js (i := 12) (by decide) (by decide) rfl k rfl) (fun v q hv => ?_)
  obtain ⟨v1, q1, p1, js1, lt1, _, e1⟩ := hv
  rw [v1, if_neg (by decide), q1, if_pos (by decide)]
  obtain ⟨⟨pd, sd1, sd2⟩, ld, rw', gw, cf, rf⟩ := id js1
  have hD := pd.1
  have f39 := rw'.2.2.2.2.2.2.2.2.2
  refine wp_b (show getR 5 17 D v.2 = some (D + 26) from pl_R p1.1 hD (k := 17) (by decide)) ?_
  refine wrap2 ?_
  have hsd := sd2.2.1
  rw [nf] at hsd
  rw [nf] at f39
  exact b_sumSt (p := 280) (p2 := 281) (co := I 22) (ko := nD I) (f0 := nD I) (x := 24) hN (Or.inr ⟨rfl, rfl, rfl, rfl, rfl, rfl, rfl, rfl, rfl⟩) p1 js1 (by rw [e1]; exact e11) sd1 hsd ⟨rw'.2.2.2.2.2.2.2.1.1, fun u => by have := rw'.2.2.2.2.2.2.2.1.2 u; omega⟩ (by omega) ⟨fun u => absurd u (by decide), fun u => ⟨rfl, rfl⟩⟩ rfl (by omega) lt1
