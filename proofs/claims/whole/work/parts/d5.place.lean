/-! the class's reader by places of the text -/
def RP (m : Mem) (T : Nat → Int) (len K a : Nat) : Prop := ∃ i, RD m T len K i ∧ posA T len i = a ∧ askA T len i = false ∧ m 5 9 = 0 ∧ m 5 10 = -1
/-- the sign is asked for skies -/
def RQ (m : Mem) (T : Nat → Int) (len K a : Nat) : Prop := ∃ i, RD m T len K i ∧ posA T len i = a ∧ askA T len i = true
theorem rp_le {m : Mem} {T : Nat → Int} {len K a : Nat} (h : RP m T len K a) : a ≤ len := by
  obtain ⟨i, d, p, _⟩ := h
  rw [← p]
  exact d.1.2.2.2.2.2.2 i d.2.1
theorem rp_kd {m : Mem} {T : Nat → Int} {len K i a : Nat} (p : posA T len i = a) (k : askA T len i = false) : kdA T len i = kdP T len a := by
  show kdC T len (askA T len i) (posA T len i) = kdC T len false a
  rw [p, k]
theorem rp_pl {T : Nat → Int} {len i a : Nat} (al : a ≤ len) (p : posA T len i = a) (k : askA T len i = false) : plC T len i = tkQ T len a := by
  rw [← plc_same al]
  unfold plC
  have e : kdA T len i = kdP T len a := by
    show kdC T len (askA T len i) (posA T len i) = kdC T len false a
    rw [p, k]
  rw [e, p]
theorem ask_s {T : Nat → Int} {len i : Nat} (h : ¬kdA T len i = (2, 10)) : askA T len (i + 1) = false := by
  show decide ((kdA T len i).1 = 2 ∧ (kdA T len i).2 = 10) = false
  rw [decide_eq_false_iff_not]
  exact fun u => h (Prod.ext u.1 u.2)
theorem rp_next {m m2 : Mem} {T : Nat → Int} {len K i a : Nat} (p : posA T len i = a) (k : askA T len i = false) (h : ¬kdP T len a = (2, 10)) (d : RD m2 T len K (i + 1)) (z : m2 5 9 = 0 ∧ m2 5 10 = -1) : RP m2 T len K (nx T len a) := by
  have e : kdA T len i = kdP T len a := by
    show kdC T len (askA T len i) (posA T len i) = kdC T len false a
    rw [p, k]
  refine ⟨i + 1, d, ?_, ask_s (by rw [e]; exact h), z⟩
  show nx T len (posA T len i) = _
  rw [p]
theorem p_word {m : Mem} (r : Refs m) {T : Nat → Int} {len K a : Nat} (h : RP m T len K a) (x : Int) (hx : ¬x = 10) {Q : Int × Mem → Prop} (y : kdP T len a = (2, x) → ∀ m2, RP m2 T len K (nx T len a) → ReF J14 m m2 → Q (1, m2)) (no : ¬kdP T len a = (2, x) → ∀ m2, Told m m2 1 (tkQ T len a) → Q (0, m2)) : Wp (X6_word 5 x m) Q := by
  have al := rp_le h
  obtain ⟨i, d, p, k, kz⟩ := h
  have e := rp_kd (m := m) (K := K) p k
  refine x_word r d x (fun u m2 d2 f => ?_) (fun u m2 t => ?_)
  · rw [e] at u
    exact y u m2 (rp_next (m := m) p k (fun v => by rw [u] at v; exact hx (congrArg Prod.snd v)) d2 (by rw [f.2 9 (by omega), f.2 10 (by omega)]; exact kz)) f
  · rw [e] at u
    rw [rp_pl al p k] at t
    exact no u m2 t
theorem p_sign {m : Mem} (r : Refs m) {T : Nat → Int} {len K a : Nat} (h : RP m T len K a) (x : Int) {Q : Int × Mem → Prop} (y : kdP T len a = (5, x) → ∀ m2, RP m2 T len K (nx T len a) → ReF J14 m m2 → Q (1, m2)) (no : ¬kdP T len a = (5, x) → ∀ m2, Told m m2 1 (tkQ T len a) → Q (0, m2)) : Wp (X6_sign 5 x m) Q := by
  have al := rp_le h
  obtain ⟨i, d, p, k, kz⟩ := h
  have e := rp_kd (m := m) (K := K) p k
  refine x_sign r d x (fun u m2 d2 f => ?_) (fun u m2 t => ?_)
  · rw [e] at u
    exact y u m2 (rp_next (m := m) p k (fun v => by rw [u] at v; exact absurd (congrArg Prod.fst v) (by show ¬(5 : Int) = 2; decide)) d2 (by rw [f.2 9 (by omega), f.2 10 (by omega)]; exact kz)) f
  · rw [e] at u
    rw [rp_pl al p k] at t
    exact no u m2 t
theorem p_number {m : Mem} (r : Refs m) {T : Nat → Int} {len K a : Nat} (h : RP m T len K a) (lo hi : Int) {Q : Int × Mem → Prop} (y : isNm T len a → lo ≤ rvl T len a → rvl T len a ≤ hi → ∀ m2, RP m2 T len K (nx T len a) → ReF J16 m m2 → m2 5 5 = rvl T len a → m2 5 6 = (a : Int) → Q (1, m2)) (out : isNm T len a → ¬(lo ≤ rvl T len a ∧ rvl T len a ≤ hi) → ∀ m2, Told m m2 4 (a : Int) → Q (0, m2)) (no : ¬isNm T len a → ∀ m2, Told m m2 1 (tkQ T len a) → Q (0, m2)) : Wp (X6_number 5 lo hi m) Q := by
  have al := rp_le h
  obtain ⟨i, d, p, k, kz⟩ := h
  have e := rp_kd (m := m) (K := K) p k
  obtain ⟨ns, nv⟩ := num_same (T := T) al
  refine x_number r d lo hi (fun u v w m2 d2 f g1 g2 => ?_) (fun u v m2 t => ?_) (fun u m2 t => ?_)
  · rw [e] at u v w g1
    have nm := ns.mp u
    rw [(nv nm).1] at v w g1
    rw [p] at g2
    exact y nm v w m2 (rp_next (m := m) p k (fun z => by rw [z] at u; exact absurd u (by show ¬(2 : Int) = 1; decide)) d2 (by rw [f.2 9 (by omega), f.2 10 (by omega)]; exact kz)) f g1 g2
  · rw [e] at u v
    have nm := ns.mp u
    rw [(nv nm).1] at v
    rw [p] at t
    exact out nm v m2 t
  · rw [e] at u
    rw [rp_pl al p k] at t
    exact no (fun z => u (ns.mpr z)) m2 t
/-- a place told behind the word at: its fault (0 for none) and where, the cell, the sign behind it -/
def spP (T : Nat → Int) (len : Nat) (W H : Int) (fr : Int → Int) (a : Nat) : Int × Int × Int × Nat :=
  if ¬kdP T len a = (2, 2) then (1, tkQ T len a, 0, a) else
  if ¬(rlx T len (nx T len a) = -1 ∧ rsg T len (nx T len a) = 2) then (1, tkQ T len (nx T len a), 0, a) else
  if ¬(0 ≤ rvl T len (nx T len a) ∧ rvl T len (nx T len a) ≤ W - 1) then (4, ((nx T len a : Nat) : Int), 0, a) else
  if ¬(rlx T len (nx T len (nx T len a)) = -1 ∧ rsg T len (nx T len (nx T len a)) = 2) then (1, tkQ T len (nx T len (nx T len a)), 0, a) else
  if ¬(0 ≤ rvl T len (nx T len (nx T len a)) ∧ rvl T len (nx T len (nx T len a)) ≤ H - 1) then (4, ((nx T len (nx T len a) : Nat) : Int), 0, a) else
  if ¬fr (rvl T len (nx T len (nx T len a)) * W + rvl T len (nx T len a)) = 0 then (4, ((nx T len (nx T len a) : Nat) : Int), 0, a) else
  (0, 0, rvl T len (nx T len (nx T len a)) * W + rvl T len (nx T len a), nx T len (nx T len (nx T len a)))
