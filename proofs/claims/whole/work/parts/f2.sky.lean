/-! the sky told -/
variable {T : Nat → Int} {len K D B : Nat} {m0 n0 : Mem}
theorem skP_at (T : Nat → Int) (a : Nat) (i : Nat) : ∀ n, skP T a n / 4 ^ i % 4 = if i < n then (sko (T (a + i))).toNat else 0 := by
  intro n
  induction n with
  | zero =>
    show 0 / 4 ^ i % 4 = _
    rw [Nat.zero_div, if_neg (by omega)]
  | succ n ih =>
    show (skP T a n + (sko (T (a + n))).toNat * 4 ^ n) / 4 ^ i % 4 = _
    have s : (sko (T (a + n))).toNat ≤ 3 := by have := sko_in (T (a + n)); omega
    have lt := skP_lt T a n
    have pi : 0 < 4 ^ i := Nat.pow_pos (by decide)
    by_cases q : i < n
    · rw [if_pos q] at ih
      rw [if_pos (by omega), ← ih]
      have e : (sko (T (a + n))).toNat * 4 ^ n = 4 ^ i * (4 * ((sko (T (a + n))).toNat * 4 ^ (n - i - 1))) := by
        have : 4 ^ n = 4 ^ i * (4 * 4 ^ (n - i - 1)) := by
          rw [← Nat.pow_succ', ← Nat.pow_add]
          congr 1
          omega
        rw [this]
        simp only [Nat.mul_comm, Nat.mul_left_comm, Nat.mul_assoc]
      rw [e, Nat.add_mul_div_left _ _ pi, Nat.add_mul_mod_self_left]
    · rw [if_neg q] at ih
      by_cases y : i = n
      · subst y
        rw [if_pos (by omega), Nat.mul_comm, Nat.add_mul_div_left _ _ pi, Nat.div_eq_of_lt lt]
        omega
      · rw [if_neg (by omega)]
        have : skP T a (n + 1) < 4 ^ i := Nat.lt_of_lt_of_le (skP_lt T a (n + 1)) (Nat.pow_le_pow_right (by decide) (by omega))
        rw [Nat.div_eq_of_lt (show skP T a n + (sko (T (a + n))).toNat * 4 ^ n < 4 ^ i from this)]
theorem sky_v (T : Nat → Int) (a n : Nat) (hn : n ≤ 12) {i : Nat} (hi : i < 12) : iand (ishr ((skP T a n : Nat) : Int) (2 * (i : Int))) 3 = if i < n then (((sko (T (a + i))).toNat : Nat) : Int) else 0 := by
  have e : iand (ishr ((skP T a n : Nat) : Int) (2 * (i : Int))) 3 = ishr ((skP T a n : Nat) : Int) (2 * (i : Int)) % 4 := iand_low _ 2 (by decide)
  have e2 : ishr ((skP T a n : Nat) : Int) (2 * (i : Int)) = ((skP T a n : Nat) : Int) / ((4 ^ i : Nat) : Int) := by
    unfold ishr sI
    rw [show ((2 * (i : Int)) % 32).toNat = 2 * i from by omega]
    have : (2 : Int) ^ (2 * i) = ((4 ^ i : Nat) : Int) := by
      rw [Int.pow_mul, Int.natCast_pow]
      rfl
    rw [this]
  rw [e, e2]
  have k := skP_at T a i n
  have c : ((skP T a n : Nat) : Int) / ((4 ^ i : Nat) : Int) % 4 = ((skP T a n / 4 ^ i % 4 : Nat) : Int) := by
    rw [Int.natCast_emod, Int.natCast_ediv]
    rfl
  rw [c, k]
  by_cases q : i < n
  · rw [if_pos q, if_pos q]
  · rw [if_neg q, if_neg q]; rfl
/-- the skies told: of the first n hours by letters -/
def skV (T : Nat → Int) (a n i : Nat) : Int := if i < n then (((sko (T (a + i))).toNat : Nat) : Int) else 0
def skI (I : Isl) (f : Nat → Int) (n : Nat) : Isl := fun k j => if k = 15 then (if 1 ≤ j ∧ j ≤ (n : Int) then f (j - 1).toNat else I 15 j) else I k j
theorem skI_s (I : Isl) (f : Nat → Int) (n : Nat) : skI I f (n + 1) = zI (skI I f n) 15 ((n : Int) + 1) (f n) := by
  funext k j
  show (if k = 15 then (if 1 ≤ j ∧ j ≤ ((n + 1 : Nat) : Int) then f (j - 1).toNat else I 15 j) else I k j) = if k = 15 ∧ j = (n : Int) + 1 then f n else (if k = 15 then (if 1 ≤ j ∧ j ≤ (n : Int) then f (j - 1).toNat else I 15 j) else I k j)
  by_cases q : k = 15
  · subst q
    by_cases y : j = (n : Int) + 1
    · rw [if_pos rfl, if_pos (show 1 ≤ j ∧ j ≤ ((n + 1 : Nat) : Int) from by omega), if_pos ⟨rfl, y⟩, show (j - 1).toNat = n from by omega]
    · rw [if_pos rfl, if_neg (show ¬(15 = 15 ∧ j = (n : Int) + 1) from fun u => y u.2), if_pos rfl]
      by_cases w : 1 ≤ j ∧ j ≤ (n : Int)
      · rw [if_pos (by omega), if_pos w]
      · rw [if_neg (by omega), if_neg w]
  · rw [if_neg q, if_neg (show ¬(k = 15 ∧ j = (n : Int) + 1) from fun u => q u.1), if_neg q]
theorem skI_0 (I : Isl) (f : Nat → Int) : skI I f 0 = I := by
  funext k j
  unfold skI
  by_cases q : k = 15
  · rw [if_pos q, if_neg (by omega), q]
  · rw [if_neg q]
theorem skI_k {I : Isl} {f : Nat → Int} {n k : Nat} (h : ¬k = 15) : skI I f n k = I k := by
  funext j
  exact if_neg h
theorem gw_sky {I : Isl} {l : Lnd} (h : GW I l) (f : Nat → Int) (n : Nat) : GW (skI I f n) l := by
  obtain ⟨z, w, cn, kc, vl, cl, cm, ap, rest⟩ := h
  refine ⟨z, w, cn, kc, vl, ?_, cm, ap, rest⟩
  unfold Cl
  rw [clTo_c (skI_k (by decide))]
  exact cl
theorem x_letters {N : Nat} (hN : 2000 ≤ N) {m : Mem} {i a n : Nat} {I : Isl} (r : Refs m) (d : RD m T len K i) (kz : m 5 9 = 0 ∧ m 5 10 = -1) (pe : posA T len i = a) (pd : PD m D I) (k4 : kdA T len i = (4, ((skP T a n : Nat) : Int))) (hn : n ≤ 12) : ∃ m2, X6_letters N 5 D m = some (1, m2) ∧ RP m2 T len K (nx T len a) ∧ PD m2 D (skI I (skV T a n) 12) ∧ Refs m2 ∧ (∀ b, ¬b = 5 → ¬b = D + 22 → m2 b = m b) ∧ ∀ j, ¬J14 j → m2 5 j = m 5 j := by
  have hD := pd.1
  obtain ⟨hk, hr⟩ := pd_S pd (k := 15) (by decide) (by decide)
  have X : Wp (X6_letters N 5 D m) (fun p => p.1 = 1 ∧ RP p.2 T len K (nx T len a) ∧ PD p.2 D (skI I (skV T a n) 12) ∧ Refs p.2 ∧ (∀ b, ¬b = 5 → ¬b = D + 22 → p.2 b = m b) ∧ ∀ j, ¬J14 j → p.2 5 j = m 5 j) := by
    unfold X6_letters
    refine wp_k k5r ?_
    refine wp_b (gtI (by decide +kernel) _) ?_
    rw [d.2.2.2.1, k4, if_pos rfl]
    refine lw_1 (fun j mm => Refs mm ∧ PD mm D (skI I (skV T a n) j) ∧ ∀ b, ¬b = D + 22 → mm b = m b) (fun F x mm => X6_letters_L15 N (fun z6 m7 => (getI 6 1 z6 m7).bind fun t8 => (X6_goTo z6 (wI (t8 + 1)) m7).bind fun p9 => (retZ p9.1).bind fun r10 => some (r10, p9.2)) F 5 D (x + 1) mm) 12 _ (fun F j mm hj hI ih => ?_) (fun F mm hI => ?_) N m (by omega) ⟨r, by rw [skI_0]; exact pd, fun b _ => rfl⟩
    · obtain ⟨rm, pm, om⟩ := hI
      show Wp (X6_letters_L15_b N _ (X6_letters_L15 N _ F) 5 D ((j : Int) + 1) mm) _
      unfold X6_letters_L15_b
      rw [if_neg (by omega)]
      refine wp_b (pd_R rm pm (k := 15) (by decide)) ?_
      refine wp_b (gtI (by decide +kernel) _) ?_
      rw [om 5 (by omega), d.2.2.2.2.2, k4, wI_of2 (x := (j : Int) + 1 - 1) (by omega) (by omega), show (j : Int) + 1 - 1 = (j : Int) from by omega, wI_of2 (x := 2 * (j : Int)) (by omega) (by omega)]
      show Wp ((astI (D + ofs 15) ((j : Int) + 1) (iand (ishr ((skP T a n : Nat) : Int) (2 * (j : Int))) 3) mm).bind _) _
      rw [sky_v T a n hn hj]
      obtain ⟨g, e, g1, g2⟩ := ar_stE (a := D + ofs 15) (n := 13) (i := (j : Int) + 1) hk hr (by omega) (by omega) (by omega) (skV T a n j) mm
      refine wp_b e ?_
      rw [wI_of2 (x := (j : Int) + 1 + 1) (by omega) (by omega)]
      refine ih ((j : Int) + 1) _ rfl ⟨refs_set rm (Or.inl hk) g, ?_, fun b hb => by rw [setA_ne (by show ¬b = D + 22; exact hb)]; exact om b hb⟩
      rw [skI_s]
      exact pd_put pm (k0 := 15) (i := (j : Int) + 1) (by decide) (by decide) (by omega) _ g1 g2
    · obtain ⟨rm, pm, om⟩ := hI
      show Wp (X6_letters_L15_b N _ (X6_letters_L15 N _ F) 5 D (((12 : Nat) : Int) + 1) mm) _
      unfold X6_letters_L15_b
      rw [if_pos (by decide)]
      refine wp_b (gtI (by decide +kernel) _) ?_
      have d2 : RD mm T len K i := rdr_off d (om 5 (by omega)) (om 6 (by omega)) (om 8 (by omega)) (om 9 (by omega)) (om 10 (by omega))
      obtain ⟨m4, e4, d4, f4⟩ := x_goNext rm d2 (by rw [k4]; show ¬(4 : Int) = 0; decide) (by rw [k4]; show ¬(4 : Int) = 6; decide)
      refine wp_b e4 ?_
      refine wp_b (v := 1) rfl ?_
      refine wp_some ⟨rfl, ⟨i + 1, d4, ?_, ask_s (by rw [k4]; exact fun u => absurd (congrArg Prod.fst u) (by show ¬(4 : Int) = 2; decide)), by show m4 5 9 = 0 ∧ m4 5 10 = -1; rw [f4.2 9 (by omega), f4.2 10 (by omega), om 5 (by omega)]; exact kz⟩, pd_rf f4 pm, ref_refs (fun j h => by omega) f4 rm, fun b h5 hb => by show m4 b = m b; rw [f4.1 b h5]; exact om b hb, fun j hj => by show m4 5 j = m 5 j; rw [f4.2 j hj, om 5 (by omega)]⟩
      show nx T len (posA T len i) = _
      rw [pe]
  obtain ⟨⟨v, m2⟩, e, h1, h⟩ := X
  have h1' : v = 1 := h1
  subst h1'
  exact ⟨m2, e, h⟩
/-- the reference looks at the letters -/
theorem m_skyOf (x : Int) (m : Mem) : X11_skyOf x m = some (sko x) := by
  refine wp_eq ?_
  unfold X11_skyOf sko
  by_cases q1 : x = 99
  · rw [if_neg (fun u => u q1), if_pos q1]; exact wp_some rfl
  rw [if_pos q1, if_neg q1]
  by_cases q2 : x = 111
  · rw [if_neg (fun u => u q2), if_pos q2]; exact wp_some rfl
  rw [if_pos q2, if_neg q2]
  by_cases q3 : x = 119
  · rw [if_neg (fun u => u q3), if_neg (by omega), if_pos q3]; exact wp_some rfl
  rw [if_pos q3]
  by_cases q4 : x = 115
  · rw [if_neg (fun u => u q4), if_pos q4]; exact wp_some rfl
  rw [if_pos q4, if_neg q4, if_neg q3]; exact wp_some rfl
theorem sk_loop {N : Nat} {n : Mem} (r : Refs n) {e : Nat} (he : e ≤ 1600) (e5 : n 264 5 = (e : Int)) (hT : ∀ i, i < e → n 265 i = T i) {k : Nat → Int → Mem → Option Mem} {Q : Mem → Prop} : ∀ d F p : Nat, e - p = d → d < F → p ≤ e → ((∀ i, p ≤ i → i < e → ¬sko (T i) = -1) → Wp (k 264 1 n) Q) → (¬(∀ i, p ≤ i → i < e → ¬sko (T i) = -1) → Wp (k 264 0 n) Q) → Wp (X11_skying_L57 N k F 264 1 (p : Int) n) Q := by
  intro d
  induction d with
  | zero =>
    intro F p hd hF hp y no
    obtain ⟨F, rfl⟩ : ∃ f, F = f + 1 := ⟨F - 1, by omega⟩
    show Wp (X11_skying_L57_b N k (X11_skying_L57 N k F) 264 1 (p : Int) n) Q
    unfold X11_skying_L57_b
    refine wp_b (g264 (by decide)) ?_
    rw [e5, if_pos (by omega)]
    exact y (fun i h1 h2 => by omega)
  | succ d ih =>
    intro F p hd hF hp y no
    obtain ⟨F, rfl⟩ : ∃ f, F = f + 1 := ⟨F - 1, by omega⟩
    show Wp (X11_skying_L57_b N k (X11_skying_L57 N k F) 264 1 (p : Int) n) Q
    unfold X11_skying_L57_b
    simp only [X11_skying_J87]
    refine wp_b (g264 (by decide)) ?_
    rw [e5, if_neg (by omega), if_neg (by decide)]
    refine wp_b (gR0 r) ?_
    refine wp_b (arI 1800 (by decide +kernel) (by omega) (by omega) n) ?_
    rw [Int.toNat_natCast, hT p (by omega)]
    refine wp_b (m_skyOf _ _) ?_
    rw [show wI ((p : Int) + 1) = ((p + 1 : Nat) : Int) from by rw [wI_of2 (by omega) (by omega)]; omega]
    by_cases q : sko (T p) = -1
    · rw [if_pos q]
      obtain ⟨F, rfl⟩ : ∃ f, F = f + 1 := ⟨F - 1, by omega⟩
      show Wp (X11_skying_L57_b N k (X11_skying_L57 N k F) 264 0 ((p + 1 : Nat) : Int) n) Q
      have w := no (fun u => u p (Nat.le_refl _) (by omega) q)
      unfold X11_skying_L57_b
      refine wp_b (g264 (by decide)) ?_
      rw [e5]
      by_cases z : (e : Int) ≤ ((p + 1 : Nat) : Int)
      · rw [if_pos z]; exact w
      · rw [if_neg z, if_pos rfl]; exact w
    · rw [if_neg q]
      refine ih F (p + 1) (by omega) (by omega) (by omega) (fun u => y fun i h1 h2 => ?_) (fun u => no fun v => u fun i h1 h2 => v i (by omega) h2)
      by_cases z : i = p
      · rw [z]; exact q
      · exact u i (by omega) h2
