/-! a statement is read by both -/
variable {T : Nat → Int} {len K D B S So p p2 ko f0 : Nat} {co : Int → Int} {s : Int} {m0 n0 : Mem} {I : Isl} {l : Lnd}
theorem isWx {n : Mem} {a : Nat} {w : Int} (rs : RS n T len a) (e : rwd T len a = w) (c : Int) (ne : ¬w = c) : X11_isWord 264 c n = some 0 := isW_n rs (fun u => ne (by rw [← e]; exact u.2))
theorem some_id {α : Type} (x : Option α) : (x.bind fun p => some p) = x := by cases x <;> rfl
/-- own words, as both know them -/
theorem own_c {n : Mem} {a : Nat} (rs : RS n T len a) (i : Nat) (hi : i < 27) (kd : kdP T len a = (2, (i : Int))) : rlx T len a = -1 ∧ rsg T len a = 1 ∧ rwd T len a = ((pk8 (owT.getD i []) : Nat) : Int) ∧ a < len := by
  have al := rs.2.2.2.2.1
  have u := (own_same (T := T) al hi).mp kd
  exact ⟨u.1, u.2.1, u.2.2, rs_end rs (by have := u.2.1; omega)⟩
theorem dsp_1 {N : Nat} {n : Mem} {a : Nat} (rs : RS n T len a) (kd : kdP T len a = (2, 1)) : X11_statement N 264 n = X11_heighten N 264 n := by
  obtain ⟨rl, s1, e, _⟩ := own_c rs 1 (by decide) kd
  rw [show ((pk8 (owT.getD 1 []) : Nat) : Int) = 114784769370228 from by decide +kernel] at e
  unfold X11_statement
  rw [if_pos k264, m_lex1 rs rl, Option.bind_some, g264 (by decide), Option.bind_some, rs.2.1, if_pos (by decide)]
  rw [isW_y rs s1 e, Option.bind_some, if_neg (by decide), some_id]
theorem dsp_3 {N : Nat} {n : Mem} {a : Nat} (rs : RS n T len a) (kd : kdP T len a = (2, 3)) : X11_statement N 264 n = X11_walling N 264 n := by
  obtain ⟨rl, s1, e, _⟩ := own_c rs 3 (by decide) kd
  rw [show ((pk8 (owT.getD 3 []) : Nat) : Int) = 2002873452 from by decide +kernel] at e
  unfold X11_statement
  rw [if_pos k264, m_lex1 rs rl, Option.bind_some, g264 (by decide), Option.bind_some, rs.2.1, if_pos (by decide)]
  rw [isWx rs e 114784769370228 (by decide), Option.bind_some, if_pos rfl]
  rw [isW_y rs s1 e, Option.bind_some, if_neg (by decide), some_id]
theorem dsp_4 {N : Nat} {n : Mem} {a : Nat} (rs : RS n T len a) (kd : kdP T len a = (2, 4)) : X11_statement N 264 n = X11_housing N 264 n := by
  obtain ⟨rl, s1, e, _⟩ := own_c rs 4 (by decide) kd
  rw [show ((pk8 (owT.getD 4 []) : Nat) : Int) = 448546567013 from by decide +kernel] at e
  unfold X11_statement
  rw [if_pos k264, m_lex1 rs rl, Option.bind_some, g264 (by decide), Option.bind_some, rs.2.1, if_pos (by decide)]
  rw [isWx rs e 114784769370228 (by decide), Option.bind_some, if_pos rfl]
  rw [isWx rs e 2002873452 (by decide), Option.bind_some, if_pos rfl]
  rw [isW_y rs s1 e, Option.bind_some, if_neg (by decide), some_id]
theorem dsp_5 {N : Nat} {n : Mem} {a : Nat} (rs : RS n T len a) (kd : kdP T len a = (2, 5)) : X11_statement N 264 n = X11_cisterning N 264 n := by
  obtain ⟨rl, s1, e, _⟩ := own_c rs 5 (by decide) kd
  rw [show ((pk8 (owT.getD 5 []) : Nat) : Int) = 27981967289315950 from by decide +kernel] at e
  unfold X11_statement
  rw [if_pos k264, m_lex1 rs rl, Option.bind_some, g264 (by decide), Option.bind_some, rs.2.1, if_pos (by decide)]
  rw [isWx rs e 114784769370228 (by decide), Option.bind_some, if_pos rfl]
  rw [isWx rs e 2002873452 (by decide), Option.bind_some, if_pos rfl]
  rw [isWx rs e 448546567013 (by decide), Option.bind_some, if_pos rfl]
  rw [isW_y rs s1 e, Option.bind_some, if_neg (by decide), some_id]
theorem dsp_6 {N : Nat} {n : Mem} {a : Nat} (rs : RS n T len a) (kd : kdP T len a = (2, 6)) : X11_statement N 264 n = X11_thinging N 264 0 n := by
  obtain ⟨rl, s1, e, _⟩ := own_c rs 6 (by decide) kd
  rw [show ((pk8 (owT.getD 6 []) : Nat) : Int) = 427021005928 from by decide +kernel] at e
  unfold X11_statement
  rw [if_pos k264, m_lex1 rs rl, Option.bind_some, g264 (by decide), Option.bind_some, rs.2.1, if_pos (by decide)]
  rw [isWx rs e 114784769370228 (by decide), Option.bind_some, if_pos rfl]
  rw [isWx rs e 2002873452 (by decide), Option.bind_some, if_pos rfl]
  rw [isWx rs e 448546567013 (by decide), Option.bind_some, if_pos rfl]
  rw [isWx rs e 27981967289315950 (by decide), Option.bind_some, if_pos rfl]
  rw [isW_y rs s1 e, Option.bind_some, if_neg (by decide), some_id]
theorem dsp_8 {N : Nat} {n : Mem} {a : Nat} (rs : RS n T len a) (kd : kdP T len a = (2, 8)) : X11_statement N 264 n = X11_thinging N 264 1 n := by
  obtain ⟨rl, s1, e, _⟩ := own_c rs 8 (by decide) kd
  rw [show ((pk8 (owT.getD 8 []) : Nat) : Int) = 495874698853 from by decide +kernel] at e
  unfold X11_statement
  rw [if_pos k264, m_lex1 rs rl, Option.bind_some, g264 (by decide), Option.bind_some, rs.2.1, if_pos (by decide)]
  rw [isWx rs e 114784769370228 (by decide), Option.bind_some, if_pos rfl]
  rw [isWx rs e 2002873452 (by decide), Option.bind_some, if_pos rfl]
  rw [isWx rs e 448546567013 (by decide), Option.bind_some, if_pos rfl]
  rw [isWx rs e 27981967289315950 (by decide), Option.bind_some, if_pos rfl]
  rw [isWx rs e 427021005928 (by decide), Option.bind_some, if_pos rfl]
  rw [isW_y rs s1 e, Option.bind_some, if_neg (by decide), some_id]
theorem dsp_9 {N : Nat} {n : Mem} {a : Nat} (rs : RS n T len a) (kd : kdP T len a = (2, 9)) : X11_statement N 264 n = X11_thinging N 264 2 n := by
  obtain ⟨rl, s1, e, _⟩ := own_c rs 9 (by decide) kd
  rw [show ((pk8 (owT.getD 9 []) : Nat) : Int) = 7824738 from by decide +kernel] at e
  unfold X11_statement
  rw [if_pos k264, m_lex1 rs rl, Option.bind_some, g264 (by decide), Option.bind_some, rs.2.1, if_pos (by decide)]
  rw [isWx rs e 114784769370228 (by decide), Option.bind_some, if_pos rfl]
  rw [isWx rs e 2002873452 (by decide), Option.bind_some, if_pos rfl]
  rw [isWx rs e 448546567013 (by decide), Option.bind_some, if_pos rfl]
  rw [isWx rs e 27981967289315950 (by decide), Option.bind_some, if_pos rfl]
  rw [isWx rs e 427021005928 (by decide), Option.bind_some, if_pos rfl]
  rw [isWx rs e 495874698853 (by decide), Option.bind_some, if_pos rfl]
  rw [isW_y rs s1 e, Option.bind_some, if_neg (by decide), some_id]
theorem dsp_10 {N : Nat} {n : Mem} {a : Nat} (rs : RS n T len a) (kd : kdP T len a = (2, 10)) : X11_statement N 264 n = X11_skying N 264 n := by
  obtain ⟨rl, s1, e, _⟩ := own_c rs 10 (by decide) kd
  rw [show ((pk8 (owT.getD 10 []) : Nat) : Int) = 7564153 from by decide +kernel] at e
  unfold X11_statement
  rw [if_pos k264, m_lex1 rs rl, Option.bind_some, g264 (by decide), Option.bind_some, rs.2.1, if_pos (by decide)]
  rw [isWx rs e 114784769370228 (by decide), Option.bind_some, if_pos rfl]
  rw [isWx rs e 2002873452 (by decide), Option.bind_some, if_pos rfl]
  rw [isWx rs e 448546567013 (by decide), Option.bind_some, if_pos rfl]
  rw [isWx rs e 27981967289315950 (by decide), Option.bind_some, if_pos rfl]
  rw [isWx rs e 427021005928 (by decide), Option.bind_some, if_pos rfl]
  rw [isWx rs e 495874698853 (by decide), Option.bind_some, if_pos rfl]
  rw [isWx rs e 7824738 (by decide), Option.bind_some, if_pos rfl]
  rw [isW_y rs s1 e, Option.bind_some, if_neg (by decide), some_id]
theorem dsp_11 {N : Nat} {n : Mem} {a : Nat} (rs : RS n T len a) (kd : kdP T len a = (2, 11)) : X11_statement N 264 n = X11_dewing N 264 n := by
  obtain ⟨rl, s1, e, _⟩ := own_c rs 11 (by decide) kd
  rw [show ((pk8 (owT.getD 11 []) : Nat) : Int) = 6579575 from by decide +kernel] at e
  unfold X11_statement
  rw [if_pos k264, m_lex1 rs rl, Option.bind_some, g264 (by decide), Option.bind_some, rs.2.1, if_pos (by decide)]
  rw [isWx rs e 114784769370228 (by decide), Option.bind_some, if_pos rfl]
  rw [isWx rs e 2002873452 (by decide), Option.bind_some, if_pos rfl]
  rw [isWx rs e 448546567013 (by decide), Option.bind_some, if_pos rfl]
  rw [isWx rs e 27981967289315950 (by decide), Option.bind_some, if_pos rfl]
  rw [isWx rs e 427021005928 (by decide), Option.bind_some, if_pos rfl]
  rw [isWx rs e 495874698853 (by decide), Option.bind_some, if_pos rfl]
  rw [isWx rs e 7824738 (by decide), Option.bind_some, if_pos rfl]
  rw [isWx rs e 7564153 (by decide), Option.bind_some, if_pos rfl]
  rw [isW_y rs s1 e, Option.bind_some, if_neg (by decide), some_id]
theorem dsp_12 {N : Nat} {n : Mem} {a : Nat} (rs : RS n T len a) (kd : kdP T len a = (2, 12)) : X11_statement N 264 n = X11_drying N 264 n := by
  obtain ⟨rl, s1, e, _⟩ := own_c rs 12 (by decide) kd
  rw [show ((pk8 (owT.getD 12 []) : Nat) : Int) = 431416239475 from by decide +kernel] at e
  unfold X11_statement
  rw [if_pos k264, m_lex1 rs rl, Option.bind_some, g264 (by decide), Option.bind_some, rs.2.1, if_pos (by decide)]
  rw [isWx rs e 114784769370228 (by decide), Option.bind_some, if_pos rfl]
  rw [isWx rs e 2002873452 (by decide), Option.bind_some, if_pos rfl]
  rw [isWx rs e 448546567013 (by decide), Option.bind_some, if_pos rfl]
  rw [isWx rs e 27981967289315950 (by decide), Option.bind_some, if_pos rfl]
  rw [isWx rs e 427021005928 (by decide), Option.bind_some, if_pos rfl]
  rw [isWx rs e 495874698853 (by decide), Option.bind_some, if_pos rfl]
  rw [isWx rs e 7824738 (by decide), Option.bind_some, if_pos rfl]
  rw [isWx rs e 7564153 (by decide), Option.bind_some, if_pos rfl]
  rw [isWx rs e 6579575 (by decide), Option.bind_some, if_pos rfl]
  rw [isW_y rs s1 e, Option.bind_some, if_neg (by decide), some_id]
theorem dsp_13 {N : Nat} {n : Mem} {a : Nat} (rs : RS n T len a) (kd : kdP T len a = (2, 13)) : X11_statement N 264 n = X11_telling N 264 0 n := by
  obtain ⟨rl, s1, e, _⟩ := own_c rs 13 (by decide) kd
  rw [show ((pk8 (owT.getD 13 []) : Nat) : Int) = 110442557893491 from by decide +kernel] at e
  unfold X11_statement
  rw [if_pos k264, m_lex1 rs rl, Option.bind_some, g264 (by decide), Option.bind_some, rs.2.1, if_pos (by decide)]
  rw [isWx rs e 114784769370228 (by decide), Option.bind_some, if_pos rfl]
  rw [isWx rs e 2002873452 (by decide), Option.bind_some, if_pos rfl]
  rw [isWx rs e 448546567013 (by decide), Option.bind_some, if_pos rfl]
  rw [isWx rs e 27981967289315950 (by decide), Option.bind_some, if_pos rfl]
  rw [isWx rs e 427021005928 (by decide), Option.bind_some, if_pos rfl]
  rw [isWx rs e 495874698853 (by decide), Option.bind_some, if_pos rfl]
  rw [isWx rs e 7824738 (by decide), Option.bind_some, if_pos rfl]
  rw [isWx rs e 7564153 (by decide), Option.bind_some, if_pos rfl]
  rw [isWx rs e 6579575 (by decide), Option.bind_some, if_pos rfl]
  rw [isWx rs e 431416239475 (by decide), Option.bind_some, if_pos rfl]
  rw [isW_y rs s1 e, Option.bind_some, if_neg (by decide), some_id]
theorem dsp_14 {N : Nat} {n : Mem} {a : Nat} (rs : RS n T len a) (kd : kdP T len a = (2, 14)) : X11_statement N 264 n = X11_telling N 264 1 n := by
  obtain ⟨rl, s1, e, _⟩ := own_c rs 14 (by decide) kd
  rw [show ((pk8 (owT.getD 14 []) : Nat) : Int) = 109317377582201 from by decide +kernel] at e
  unfold X11_statement
  rw [if_pos k264, m_lex1 rs rl, Option.bind_some, g264 (by decide), Option.bind_some, rs.2.1, if_pos (by decide)]
  rw [isWx rs e 114784769370228 (by decide), Option.bind_some, if_pos rfl]
  rw [isWx rs e 2002873452 (by decide), Option.bind_some, if_pos rfl]
  rw [isWx rs e 448546567013 (by decide), Option.bind_some, if_pos rfl]
  rw [isWx rs e 27981967289315950 (by decide), Option.bind_some, if_pos rfl]
  rw [isWx rs e 427021005928 (by decide), Option.bind_some, if_pos rfl]
  rw [isWx rs e 495874698853 (by decide), Option.bind_some, if_pos rfl]
  rw [isWx rs e 7824738 (by decide), Option.bind_some, if_pos rfl]
  rw [isWx rs e 7564153 (by decide), Option.bind_some, if_pos rfl]
  rw [isWx rs e 6579575 (by decide), Option.bind_some, if_pos rfl]
  rw [isWx rs e 431416239475 (by decide), Option.bind_some, if_pos rfl]
  rw [isWx rs e 110442557893491 (by decide), Option.bind_some, if_pos rfl]
  rw [isW_y rs s1 e, Option.bind_some, if_neg (by decide), some_id]
theorem dsp_15 {N : Nat} {n : Mem} {a : Nat} (rs : RS n T len a) (kd : kdP T len a = (2, 15)) : X11_statement N 264 n = X11_telling N 264 2 n := by
  obtain ⟨rl, s1, e, _⟩ := own_c rs 15 (by decide) kd
  rw [show ((pk8 (owT.getD 15 []) : Nat) : Int) = 513020620391 from by decide +kernel] at e
  unfold X11_statement
  rw [if_pos k264, m_lex1 rs rl, Option.bind_some, g264 (by decide), Option.bind_some, rs.2.1, if_pos (by decide)]
  rw [isWx rs e 114784769370228 (by decide), Option.bind_some, if_pos rfl]
  rw [isWx rs e 2002873452 (by decide), Option.bind_some, if_pos rfl]
  rw [isWx rs e 448546567013 (by decide), Option.bind_some, if_pos rfl]
  rw [isWx rs e 27981967289315950 (by decide), Option.bind_some, if_pos rfl]
  rw [isWx rs e 427021005928 (by decide), Option.bind_some, if_pos rfl]
  rw [isWx rs e 495874698853 (by decide), Option.bind_some, if_pos rfl]
  rw [isWx rs e 7824738 (by decide), Option.bind_some, if_pos rfl]
  rw [isWx rs e 7564153 (by decide), Option.bind_some, if_pos rfl]
  rw [isWx rs e 6579575 (by decide), Option.bind_some, if_pos rfl]
  rw [isWx rs e 431416239475 (by decide), Option.bind_some, if_pos rfl]
  rw [isWx rs e 110442557893491 (by decide), Option.bind_some, if_pos rfl]
  rw [isWx rs e 109317377582201 (by decide), Option.bind_some, if_pos rfl]
  rw [isW_y rs s1 e, Option.bind_some, if_neg (by decide), some_id]
theorem dsp_no {N : Nat} {n : Mem} {a : Nat} (rs : RS n T len a) (al : a ≤ len) (no : ∀ i : Nat, (i = 1 ∨ 3 ≤ i ∧ i ≤ 6 ∨ 8 ≤ i ∧ i ≤ 15) → ¬kdP T len a = (2, (i : Int))) : X11_statement N 264 n = some (Bl n 1 (tkQ T len a)) := by
  by_cases rl : rlx T len a = -1
  · have nw : ∀ (i : Nat) (w : Int), (i = 1 ∨ 3 ≤ i ∧ i ≤ 6 ∨ 8 ≤ i ∧ i ≤ 15) → ((pk8 (owT.getD i []) : Nat) : Int) = w → X11_isWord 264 w n = some 0 := fun i w hi e => isW_n rs (fun u => no i hi ((own_same al (by omega)).mpr ⟨rl, u.1, by rw [e]; exact u.2⟩))
    unfold X11_statement
    rw [if_pos k264, m_lex1 rs rl, Option.bind_some, g264 (by decide), Option.bind_some, rs.2.1, if_pos (by decide)]
    rw [nw 1 114784769370228 (by decide) (by decide +kernel), Option.bind_some, if_pos rfl]
    rw [nw 3 2002873452 (by decide) (by decide +kernel), Option.bind_some, if_pos rfl]
    rw [nw 4 448546567013 (by decide) (by decide +kernel), Option.bind_some, if_pos rfl]
    rw [nw 5 27981967289315950 (by decide) (by decide +kernel), Option.bind_some, if_pos rfl]
    rw [nw 6 427021005928 (by decide) (by decide +kernel), Option.bind_some, if_pos rfl]
    rw [nw 8 495874698853 (by decide) (by decide +kernel), Option.bind_some, if_pos rfl]
    rw [nw 9 7824738 (by decide) (by decide +kernel), Option.bind_some, if_pos rfl]
    rw [nw 10 7564153 (by decide) (by decide +kernel), Option.bind_some, if_pos rfl]
    rw [nw 11 6579575 (by decide) (by decide +kernel), Option.bind_some, if_pos rfl]
    rw [nw 12 431416239475 (by decide) (by decide +kernel), Option.bind_some, if_pos rfl]
    rw [nw 13 110442557893491 (by decide) (by decide +kernel), Option.bind_some, if_pos rfl]
    rw [nw 14 109317377582201 (by decide) (by decide +kernel), Option.bind_some, if_pos rfl]
    rw [nw 15 513020620391 (by decide) (by decide +kernel), Option.bind_some, if_pos rfl]
    rw [g264 (by decide), Option.bind_some, rs.1.1, m_blame0 rs.2.1, Option.bind_some, tkQ_1 rl]
  · have fs := bl_fs n (k := 1) (by decide) (tkQ T len a)
    unfold X11_statement
    rw [if_pos k264, m_lex0 rs rl, Option.bind_some, g264 (by decide), Option.bind_some, if_neg (by unfold FS at fs; omega)]
theorem full_walling {N : Nat} {n : Mem} {a : Nat} (r : Refs n) (rs : RS n T len a) (hB : B = 0 ∨ B = 1) (i40 : n 264 40 = (B : Int)) (e : n 271 B = 12) : X11_walling N 264 n = some (Bl n 6 (a : Int)) := by
  unfold X11_walling
  rw [if_pos k264, gR19 r, Option.bind_some, g264 (by decide), Option.bind_some, i40, wld1 (by decide +kernel) hB n, Option.bind_some, e, if_neg (fun u => u rfl)]
  unfold X11_walling_J20
  rw [m_countsF rs (show ¬(1 : Int) = 0 from by decide), Option.bind_some, if_neg (fun u => u rfl)]
theorem full_housing {N : Nat} {n : Mem} {a : Nat} (r : Refs n) (rs : RS n T len a) (hB : B = 0 ∨ B = 1) (i40 : n 264 40 = (B : Int)) (e : n 272 B = 6) : X11_housing N 264 n = some (Bl n 6 (a : Int)) := by
  unfold X11_housing
  rw [if_pos k264, gR20 r, Option.bind_some, g264 (by decide), Option.bind_some, i40, wld1 (by decide +kernel) hB n, Option.bind_some, e, if_neg (fun u => u rfl)]
  unfold X11_housing_J20
  rw [m_countsF rs (show ¬(1 : Int) = 0 from by decide), Option.bind_some, if_neg (fun u => u rfl)]
theorem full_cisterning {N : Nat} {n : Mem} {a : Nat} (r : Refs n) (rs : RS n T len a) (hB : B = 0 ∨ B = 1) (i40 : n 264 40 = (B : Int)) (e : n 273 B = 5) : X11_cisterning N 264 n = some (Bl n 6 (a : Int)) := by
  unfold X11_cisterning
  rw [if_pos k264, gR21 r, Option.bind_some, g264 (by decide), Option.bind_some, i40, wld1 (by decide +kernel) hB n, Option.bind_some, e, if_neg (fun u => u rfl)]
  unfold X11_cisterning_J19
  rw [m_countsF rs (show ¬(1 : Int) = 0 from by decide), Option.bind_some, if_neg (fun u => u rfl)]
theorem full_thinging {N : Nat} {n : Mem} {a : Nat} (r : Refs n) (rs : RS n T len a) (hB : B = 0 ∨ B = 1) (i40 : n 264 40 = (B : Int)) (e : n 275 B = 10) (sort : Int) : X11_thinging N 264 sort n = some (Bl n 6 (a : Int)) := by
  unfold X11_thinging
  rw [if_pos k264, gR23 r, Option.bind_some, g264 (by decide), Option.bind_some, i40, wld1 (by decide +kernel) hB n, Option.bind_some, e, if_neg (fun u => u rfl)]
  unfold X11_thinging_J20
  rw [m_countsF rs (show ¬(1 : Int) = 0 from by decide), Option.bind_some, if_neg (fun u => u rfl)]
theorem full_dewing {N : Nat} {n : Mem} {a : Nat} (r : Refs n) (rs : RS n T len a) (hB : B = 0 ∨ B = 1) (i40 : n 264 40 = (B : Int)) (e : ¬n 280 B = -1) : X11_dewing N 264 n = some (Bl n 6 (a : Int)) := by
  unfold X11_dewing
  rw [if_pos k264, gR28 r, Option.bind_some, g264 (by decide), Option.bind_some, i40, wld1 (by decide +kernel) hB n, Option.bind_some, if_neg e]
  unfold X11_dewing_J19
  rw [m_countsF rs (show ¬(1 : Int) = 0 from by decide), Option.bind_some, if_neg (fun u => u rfl)]
theorem full_drying {N : Nat} {n : Mem} {a : Nat} (r : Refs n) (rs : RS n T len a) (hB : B = 0 ∨ B = 1) (i40 : n 264 40 = (B : Int)) (e : ¬n 282 B = -1) : X11_drying N 264 n = some (Bl n 6 (a : Int)) := by
  unfold X11_drying
  rw [if_pos k264, gR30 r, Option.bind_some, g264 (by decide), Option.bind_some, i40, wld1 (by decide +kernel) hB n, Option.bind_some, if_neg e]
  unfold X11_drying_J19
  rw [m_countsF rs (show ¬(1 : Int) = 0 from by decide), Option.bind_some, if_neg (fun u => u rfl)]
/-- the class begins a sum -/
theorem x_begS {m : Mem} (r : Refs m) {S w So : Nat} {cw co : Int → Int} {ko : Nat} (hw : w < 2) (hSo : So = 1 - w) (s1 : SD m S w cw 0) (s2 : SD m S So co ko) : ∃ m2, X7_begin S w m = some (1, m2) ∧ LnS m2 S So ko 0 ∧ SD m2 S So co ko ∧ SD m2 S w cw 0 ∧ (∀ b, ¬(S ≤ b ∧ b ≤ S + 3) → m2 b = m b) ∧ Refs m2 := by
  obtain ⟨hS, _, lq, f, ⟨u1, u2⟩, u3, u4, u5⟩ := s1
  obtain ⟨_, _, _, g, ⟨v1, v2⟩, v3, v4, v5⟩ := s2
  obtain ⟨c1, c2, c3, c4, c5, c6, ⟨c7, c8⟩, c9, c10⟩ := sd_c hS
  have eL : m S 1 = (ko : Int) := by
    unfold Lq at lq
    rcases (by omega : w = 0 ∧ So = 1 ∨ w = 1 ∧ So = 0) with ⟨e1, e2⟩ | ⟨e1, e2⟩ <;> subst e1 e2 <;> omega
  have gi1 : ∀ mm : Mem, getI 7 1 S mm = some (mm S 1) := fun mm => by unfold getI; rw [if_pos ⟨c1, by omega⟩]
  obtain ⟨ma, hma⟩ : ∃ x, x = up m S 2 (w : Int) := ⟨_, rfl⟩
  obtain ⟨mb, hmb⟩ : ∃ x, x = up ma (S + 2) w (ko : Int) := ⟨_, rfl⟩
  obtain ⟨mc, hmc⟩ : ∃ x, x = up mb (S + 3) w (ko : Int) := ⟨_, rfl⟩
  have ra : Refs ma := by rw [hma]; exact refs_up r (by rcases hS with e | e <;> subst e <;> decide +kernel) _
  have rb : Refs mb := by rw [hmb]; exact refs_arr ra (by rw [c7]; rfl) _ _
  have rc' : Refs mc := by rw [hmc]; exact refs_arr rb (by rw [c9]; rfl) _ _
  have a1 : ma S 1 = (ko : Int) := by rw [hma, up_slot (by decide)]; exact eL
  have b1 : mb S = ma S := by rw [hmb, up_ne (by omega)]
  have cS : mc S = ma S := by rw [hmc, up_ne (by omega), b1]
  have cS1 : mc S 1 = (ko : Int) := by rw [cS]; exact a1
  have cS2 : mc S 2 = (w : Int) := by rw [cS, hma, up_same]
  have c2w : mc (S + 2) w = (ko : Int) := by rw [hmc, up_ne (by omega), hmb, up_same]
  have c2o : ∀ j, ¬j = w → mc (S + 2) j = m (S + 2) j := fun j hj => by rw [hmc, up_ne (by omega), hmb, up_at, if_neg hj, hma, up_ne (by omega)]
  have c3w : mc (S + 3) w = (ko : Int) := by rw [hmc, up_same]
  have c3o : ∀ j, ¬j = w → mc (S + 3) j = m (S + 3) j := fun j hj => by rw [hmc, up_at, if_neg hj, hmb, up_ne (by omega), hma, up_ne (by omega)]
  have cc : mc (S + 1) = m (S + 1) := by rw [hmc, up_ne (by omega), hmb, up_ne (by omega), hma, up_ne (by omega)]
  have lqc : Lq mc S := by
    unfold Lq at lq ⊢
    rcases (by omega : w = 0 ∧ So = 1 ∨ w = 1 ∧ So = 0) with ⟨e1, e2⟩ | ⟨e1, e2⟩ <;> subst e1 e2
    · rw [cS1, c3w, c2w, c3o 1 (by decide), c2o 1 (by decide)]; omega
    · rw [cS1, c3w, c2w, c3o 0 (by decide), c2o 0 (by decide)]; omega
  have no : ¬So = w := by omega
  refine ⟨mc, ?_, ⟨by rw [cS1]; rfl, by rw [cS2]; omega, ?_, ?_, by rw [c3o So no, v4]; omega⟩, ⟨hS, by omega, lqc, g, ⟨by rw [cS1, ← eL]; exact v1, by rw [cS1, ← eL]; exact v2⟩, by rw [c2o So no]; exact v3, by rw [c3o So no]; exact v4, fun i i0 i1 => by rw [cc]; exact v5 i i0 i1⟩, ⟨hS, hw, lqc, ko, ⟨by rw [cS1]; exact Int.le_refl _, by rw [cS1, ← eL]; exact v2⟩, c2w, c3w, fun i i0 i1 => absurd i1 (by omega)⟩, fun b hb => by rw [hmc, up_ne (by omega), hmb, up_ne (by omega), hma, up_ne (by omega)], rc'⟩
  · refine wp_eq ?_
    unfold X7_begin
    refine wp_k c1 ?_
    rw [if_neg (by omega), if_neg (by omega)]
    refine wp_b (show putI 7 2 S (w : Int) m = some ma from by rw [hma]; exact if_pos ⟨c1, by omega⟩) ?_
    refine wp_b (sd_R ra hS).2.2.1 ?_
    refine wp_b (gi1 ma) ?_
    rw [a1]
    refine wp_b (ar_st c7 c8 (by omega) (by omega) (by omega) _ ma) ?_
    rw [← up_setA, Int.toNat_natCast, ← hmb]
    refine wp_b (sd_R rb hS).2.2.2 ?_
    refine wp_b (gi1 mb) ?_
    rw [b1, a1]
    refine wp_b (ar_st c9 c10 (by omega) (by omega) (by omega) _ mb) ?_
    rw [← up_setA, Int.toNat_natCast, ← hmc]
    refine wp_b (v := 1) rfl ?_
    exact wp_some rfl
  · rw [show 1 - So = w from by omega]; exact c2w
  · rw [show 1 - So = w from by omega]; exact c3w
theorem js_beg {D B : Nat} {m0 n0 m n m2 : Mem} {I : Isl} {l : Lnd} (h : JS D B m0 n0 m n I l) (d0 : SD m2 (D + 23) 0 (I 22) (nD I)) (d1 : SD m2 (D + 23) 1 (I 24) (nR I)) (o : ∀ b, ¬(D + 23 ≤ b ∧ b ≤ D + 23 + 3) → m2 b = m b) : JS D B m0 n0 m2 n I l := by
  obtain ⟨⟨p1, p2, p3⟩, ld, rw', gw, cf, rf⟩ := h
  have hD := p1.1
  exact ⟨⟨pd_off p1 fun a a1 a2 _ _ _ => o a (by omega), d0, d1⟩, ld_off ld fun a a1 a2 => o a (by omega), rw', gw, cf_up cf fun a j _ h2 => by rw [o a (by omega)], rf⟩
/-- the class around its reading of a sum -/
def bgS (N D : Nat) (w : Int) (m : Mem) : Option (Int × Mem) := (getR 5 16 D m).bind fun t80 => (X7_begin t80 w m).bind fun p81 => if p81.1 = 0 then (retZ 0).bind fun r82 => some (r82, p81.2) else (getR 5 16 D p81.2).bind fun t83 => two (X6_sum N 10 5 t83 0 p81.2)
theorem st_dew {N : Nat} (hN : 4000 ≤ N) {m n : Mem} {a : Nat} (j : JI T len K D B m0 n0 m n a s I l) (k : kdP T len a = (2, 11)) (nf : nD I = 0) : Wp (sW 11 (bgS N D 0) m) (fun v => Wp (X11_dewing N 264 n) (fun n2 => Po2 T len K D B m0 n0 a s v n2)) := by
  obtain ⟨p, js, e11, ab⟩ := j
  have hB := js.2.2.1.1.1
  have i40 := js.2.2.1.1.2.1
  have em : n 280 B = -1 := by
    rcases js.2.2.1.2.2.2.2.2.2.2.1.1 with u | u
    · exact u.1
    · have := u.2.1; omega
  unfold X11_dewing
  refine wp_rk k264 ?_
  refine wp_r (gR28 p.2.1) ?_
  refine wp_r (g264 (by decide)) ?_
  rw [i40]
  refine wp_r (wld1 (by decide +kernel) hB n) ?_
  rw [em, if_pos rfl]
  unfold X11_dewing_J19
  refine wp_j (b_count (by omega) p js (i := 11) (by decide) (by decide) rfl k rfl) (fun v q hv => ?_)
  obtain ⟨v1, q1, p1, js1, lt1, _, e1⟩ := hv
  rw [v1, if_neg (by decide), q1, if_pos (by decide)]
  obtain ⟨⟨pd, sd1, sd2⟩, ld, rw', gw, cf, rf⟩ := id js1
  have hD := pd.1
  have f39 := rw'.2.2.2.2.2.2.2.2.2
  unfold bgS
  refine wp_b (show getR 5 16 D v.2 = some (D + 23) from pl_R p1.1 hD (k := 16) (by decide)) ?_
  obtain ⟨m2, e2, ln, sd2', sd1', o2, r2⟩ := x_begS p1.1 (w := 0) (So := 1) (by decide) rfl (by have z := sd1; rw [nf] at z; exact z) sd2
  refine wp_b e2 ?_
  rw [if_neg (show ¬((1 : Int), m2).1 = 0 from by show ¬(1 : Int) = 0; decide)]
  refine wp_b (show getR 5 16 D m2 = some (D + 23) from pl_R r2 hD (k := 16) (by decide)) ?_
  refine wrap2 ?_
  have p2 : JP T len K m2 q.2 (nx T len a) := ⟨r2, p1.2.1, rp_off p1.2.2.1 (fun b hb => o2 b (by omega)), p1.2.2.2⟩
  have js2 := js_beg js1 (by rw [nf]; exact sd1') sd2' o2
  rw [nf] at f39
  exact b_sumSt (p := 282) (p2 := 283) (co := I 24) (ko := nR I) (f0 := nR I) (x := 22) hN (Or.inl ⟨rfl, rfl, rfl, rfl, rfl, rfl, rfl, rfl, rfl⟩) p2 js2 (by show m2 5 11 = s; rw [o2 5 (by omega), e1]; exact e11) sd2' ln ⟨rw'.2.2.2.2.2.2.2.2.1.1, fun u => by have := rw'.2.2.2.2.2.2.2.2.1.2 u; omega⟩ (by omega) ⟨fun u => ⟨rfl, rfl⟩, fun u => absurd u (by decide)⟩ rfl (by omega) lt1
theorem st_dries {N : Nat} (hN : 4000 ≤ N) {m n : Mem} {a : Nat} (j : JI T len K D B m0 n0 m n a s I l) (k : kdP T len a = (2, 12)) (nf : nR I = 0) : Wp (sW 12 (bgS N D 1) m) (fun v => Wp (X11_drying N 264 n) (fun n2 => Po2 T len K D B m0 n0 a s v n2)) := by
  obtain ⟨p, js, e11, ab⟩ := j
  have hB := js.2.2.1.1.1
  have i40 := js.2.2.1.1.2.1
  have em : n 282 B = -1 := by
    rcases js.2.2.1.2.2.2.2.2.2.2.2.1.1 with u | u
    · exact u.1
    · have := u.2.1; omega
  unfold X11_drying
  refine wp_rk k264 ?_
  refine wp_r (gR30 p.2.1) ?_
  refine wp_r (g264 (by decide)) ?_
  rw [i40]
  refine wp_r (wld1 (by decide +kernel) hB n) ?_
  rw [em, if_pos rfl]
  unfold X11_drying_J19
  refine wp_j (b_count (by omega) p js (i := 12) (by decide) (by decide) rfl k rfl) (fun v q hv => ?_)
  obtain ⟨v1, q1, p1, js1, lt1, _, e1⟩ := hv
  rw [v1, if_neg (by decide), q1, if_pos (by decide)]
  obtain ⟨⟨pd, sd1, sd2⟩, ld, rw', gw, cf, rf⟩ := id js1
  have hD := pd.1
  have f39 := rw'.2.2.2.2.2.2.2.2.2
  unfold bgS
  refine wp_b (show getR 5 16 D v.2 = some (D + 23) from pl_R p1.1 hD (k := 16) (by decide)) ?_
  obtain ⟨m2, e2, ln, sd1', sd2', o2, r2⟩ := x_begS p1.1 (w := 1) (So := 0) (by decide) rfl (by have z := sd2; rw [nf] at z; exact z) sd1
  refine wp_b e2 ?_
  rw [if_neg (show ¬((1 : Int), m2).1 = 0 from by show ¬(1 : Int) = 0; decide)]
  refine wp_b (show getR 5 16 D m2 = some (D + 23) from pl_R r2 hD (k := 16) (by decide)) ?_
  refine wrap2 ?_
  have p2 : JP T len K m2 q.2 (nx T len a) := ⟨r2, p1.2.1, rp_off p1.2.2.1 (fun b hb => o2 b (by omega)), p1.2.2.2⟩
  have js2 := js_beg js1 sd1' (by rw [nf]; exact sd2') o2
  rw [nf] at f39
  exact b_sumSt (p := 280) (p2 := 281) (co := I 22) (ko := nD I) (f0 := nD I) (x := 24) hN (Or.inr ⟨rfl, rfl, rfl, rfl, rfl, rfl, rfl, rfl, rfl⟩) p2 js2 (by show m2 5 11 = s; rw [o2 5 (by omega), e1]; exact e11) sd1' ln ⟨rw'.2.2.2.2.2.2.2.1.1, fun u => by have := rw'.2.2.2.2.2.2.2.1.2 u; omega⟩ (by omega) ⟨fun u => absurd u (by decide), fun u => ⟨rfl, rfl⟩⟩ rfl (by omega) lt1
