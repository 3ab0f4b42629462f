/-! the sky told: both -/
variable {T : Nat → Int} {len K D B : Nat} {m0 n0 : Mem}
abbrev skY (T : Nat → Int) (len a : Nat) : Prop := a < len ∧ ¬jnd T a ∧ isLt (T a) ∧ skG T a (tE T len a - a)
theorem kd_sky (T : Nat → Int) {len a : Nat} (al : a ≤ len) : (skY T len a → kdC T len true a = (4, ((skP T a (tE T len a - a) : Nat) : Int))) ∧ (¬skY T len a → ¬(kdC T len true a).1 = 4 ∧ (if (kdC T len true a).1 = 6 then (kdC T len true a).2 else (a : Int)) = (a : Int)) := by
  constructor
  · intro ⟨h1, h2, h3, h4⟩
    unfold kdC
    rw [if_neg (by omega), if_neg h2, if_pos ⟨rfl, Or.inl h3⟩, if_pos h4]
  · intro no
    by_cases q : len ≤ a
    · have e : kdC T len true a = (0, (len : Int)) := by unfold kdC; rw [if_pos q]
      rw [e]
      exact ⟨by show ¬(0 : Int) = 4; decide, if_neg (by show ¬(0 : Int) = 6; decide)⟩
    · by_cases j : jnd T a
      · have e : kdC T len true a = (6, (a : Int)) := by unfold kdC; rw [if_neg q, if_pos j]
        rw [e]
        exact ⟨by show ¬(6 : Int) = 4; decide, if_pos rfl⟩
      · by_cases w : isLt (T a) ∨ isDg (T a)
        · have ng : ¬skG T a (tE T len a - a) := fun g => by
            rcases w with w | w
            · exact no ⟨by omega, j, w, g⟩
            · have t := (tE_in (T := T) (show a < len from by omega)).1
              refine g.2 0 (by omega) ?_
              unfold sko
              rw [show a + 0 = a from rfl, if_neg (by omega), if_neg (by omega), if_neg (by omega), if_neg (by omega)]
          have e : kdC T len true a = (6, (a : Int)) := by unfold kdC; rw [if_neg q, if_neg j, if_pos ⟨rfl, w⟩, if_neg ng]
          rw [e]
          exact ⟨by show ¬(6 : Int) = 4; decide, if_pos rfl⟩
        · have e : kdC T len true a = (5, T a) := by
            unfold kdC
            rw [if_neg q, if_neg j, if_neg (fun u => w u.2), if_neg (fun u => w (Or.inl u)), if_neg (fun u => w (Or.inr u))]
          rw [e]
          exact ⟨by show ¬(5 : Int) = 4; decide, if_neg (by show ¬(5 : Int) = 6; decide)⟩
/-- the reference writes the skies -/
theorem sk_write {N : Nat} (hN : 2000 ≤ N) {n : Mem} {a : Nat} (r : Refs n) (rs : RS n T len a) (al : a < len) (hB : B = 0 ∨ B = 1) (i40 : n 264 40 = (B : Int)) (g : skG T a (tE T len a - a)) {k : Nat → Mem → Option Mem} {Q : Mem → Prop} (h : ∀ n2 : Mem, Refs n2 → (∀ b, ¬b = 279 → n2 b = n b) → (∀ x, ¬(12 * B ≤ x ∧ x < 12 * B + 12) → n2 279 x = n 279 x) → (∀ i, i < 12 → n2 279 (12 * B + i) = skV T a (tE T len a - a) i) → Wp (k 264 n2) Q) : Wp (X11_skying_L117 N k N 264 0 n) Q := by
  have te := tE_in (T := T) al
  have hl := rs.2.2.2.2.2
  refine lw_1 (fun j mm => Refs mm ∧ (∀ b, ¬b = 279 → mm b = n b) ∧ (∀ x, ¬(12 * B ≤ x ∧ x < 12 * B + j) → mm 279 x = n 279 x) ∧ ∀ i, i < j → mm 279 (12 * B + i) = skV T a (tE T len a - a) i) (fun F x mm => X11_skying_L117 N k F 264 x mm) 12 _ (fun F j mm hj hI ih => ?_) (fun F mm hI => ?_) N n (by omega) ⟨r, fun _ _ => rfl, fun _ _ => rfl, fun i hi => absurd hi (Nat.not_lt_zero i)⟩
  · obtain ⟨rm, om, ox, oi⟩ := hI
    show Wp (X11_skying_L117_b N k (X11_skying_L117 N k F) 264 (j : Int) mm) Q
    unfold X11_skying_L117_b
    simp only [X11_skying_J167]
    rw [if_neg (by omega)]
    have o4 : mm 264 4 = (a : Int) := by rw [om 264 (by decide)]; exact rs.1.1
    have o5 : mm 264 5 = ((tE T len a : Nat) : Int) := by rw [om 264 (by decide), rs.1.2.2.2.1, if_neg (by omega)]
    have o40 : mm 264 40 = (B : Int) := by rw [om 264 (by decide)]; exact i40
    have step : ∀ v : Int, v = skV T a (tE T len a - a) j → Wp ((astI 279 (wI (wI (12 * (B : Int)) + (j : Int))) v mm).bind fun m19 => X11_skying_L117 N k F 264 (wI ((j : Int) + 1)) m19) Q := fun v hv => by
      refine wp_b (wst (K := 12) (B := B) (len := 12) (n := 24) (by decide +kernel) (by omega) (by decide) (by omega) (by omega) v mm) ?_
      refine ih _ _ (by first | omega | (simp (disch := omega) only [wI_of2] <;> omega)) ⟨refs_arr rm (by decide +kernel) _ _, fun b hb => by rw [up_ne hb]; exact om b hb, fun x hx => ?_, fun i hi => ?_⟩
      · rw [up_at, if_neg (by omega)]; exact ox x (by omega)
      · rw [up_at]
        by_cases y : i = j
        · rw [if_pos (by omega), y, hv]
        · rw [if_neg (by omega)]; exact oi i (by omega)
    refine wp_b (gR27 rm) ?_
    refine wp_b (g264 (by decide)) ?_
    refine wp_b (g264 (by decide)) ?_
    refine wp_b (g264 (by decide)) ?_
    rw [o4, o5, o40, wI_of2 (x := (a : Int) + (j : Int)) (by omega) (by omega)]
    by_cases q : j < tE T len a - a
    · rw [if_neg (by omega)]
      refine wp_b (gR0 rm) ?_
      refine wp_b (g264 (by decide)) ?_
      rw [o4, wI_of2 (x := (a : Int) + (j : Int)) (by omega) (by omega)]
      refine wp_b (arI 1800 (by decide +kernel) (by omega) (by omega) mm) ?_
      rw [show ((a : Int) + (j : Int)).toNat = a + j from by omega, om 265 (by decide), rs.2.2.2.1 (a + j) (by omega)]
      refine wp_b (m_skyOf _ _) ?_
      refine step _ ?_
      unfold skV
      rw [if_pos q]
      have s1 := g.2 j q
      have s2 := sko_in (T (a + j))
      omega
    · rw [if_pos (by omega)]
      refine step _ ?_
      unfold skV
      rw [if_neg q]
  · obtain ⟨rm, om, ox, oi⟩ := hI
    show Wp (X11_skying_L117_b N k (X11_skying_L117 N k F) 264 ((12 : Nat) : Int) mm) Q
    unfold X11_skying_L117_b
    rw [if_pos (by decide)]
    exact h mm rm om ox oi
theorem m_skying {N : Nat} (hN : 2000 ≤ N) {n : Mem} {a : Nat} (r : Refs n) (rs : RS n T len a) (hB : B = 0 ∨ B = 1) (i40 : n 264 40 = (B : Int)) {Q : Mem → Prop} (y : skY T len a → ∀ n2 : Mem, Refs n2 → RS n2 T len (nx T len a) → (∀ b, ¬b = 279 → ¬b = 264 → n2 b = n b) → (∀ j, ¬(j = 3 ∨ j = 4 ∨ j = 5 ∨ j = 6 ∨ j = 7 ∨ j = 12) → n2 264 j = n 264 j) → (∀ x, ¬(12 * B ≤ x ∧ x < 12 * B + 12) → n2 279 x = n 279 x) → (∀ i, i < 12 → n2 279 (12 * B + i) = skV T a (tE T len a - a) i) → Q n2) (no : ¬skY T len a → Q (Bl n 1 (a : Int))) {c : Int} (hc : c = 1) : Wp (if ¬c = 0 then ((getI 11 3 264 n).bind fun t2 => if ¬t2 = 1 then X11_skying_J50 N 264 n else (getI 11 5 264 n).bind fun t33 => (getI 11 4 264 n).bind fun t34 => (X11_is (wI (t33 - t34)) 1 12 n).bind fun p35 => if p35 = 0 then X11_skying_J50 N 264 n else (getI 11 12 264 n).bind fun t36 => (getI 11 4 264 n).bind fun t37 => if t36 = t37 then X11_skying_J50 N 264 n else X11_skying_J51 N 264 1 n) else some n) Q := by
  rw [if_pos (by omega)]
  have hl := rs.2.2.2.2.2
  have hal := rs.2.2.2.2.1
  have fs := bl_fs n (k := 1) (by decide) (a : Int)
  have bad : ¬skY T len a → Wp ((getI 11 4 264 n).bind fun t30 => (X11_blame 264 1 t30 n).bind fun p31 => X11_skying_J107 N 264 p31) Q := fun u => by
    refine wp_b (g264 (by decide)) ?_
    rw [rs.1.1]
    refine wp_b (m_blame0 rs.2.1 _ _) ?_
    unfold X11_skying_J107
    refine wp_b (g264 (by decide)) ?_
    rw [if_neg (by unfold FS at fs; omega)]
    exact wp_some (no u)
  have J50 : ¬skY T len a → Wp (X11_skying_J50 N 264 n) Q := fun u => by
    unfold X11_skying_J50 X11_skying_J51
    refine wp_b (g264 (by decide)) ?_
    obtain ⟨F, hF⟩ : ∃ f, N = f + 1 := ⟨N - 1, by omega⟩
    have e : ∀ k x, X11_skying_L57 N k N 264 0 x n = X11_skying_L57_b N k (X11_skying_L57 N k F) 264 0 x n := fun k x => by
      conv => lhs; arg 3; rw [hF]
      rfl
    rw [e]
    unfold X11_skying_L57_b
    refine wp_b (g264 (by decide)) ?_
    have w := bad u
    by_cases z : n 264 5 ≤ n 264 4
    · rw [if_pos z]; show Wp (if ¬(0 : Int) = 0 then X11_skying_J107 N 264 n else (getI 11 4 264 n).bind fun t30 => (X11_blame 264 1 t30 n).bind fun p31 => X11_skying_J107 N 264 p31) Q; rw [if_neg (fun u => u rfl)]; exact w
    · rw [if_neg z, if_pos rfl]; show Wp (if ¬(0 : Int) = 0 then X11_skying_J107 N 264 n else (getI 11 4 264 n).bind fun t30 => (X11_blame 264 1 t30 n).bind fun p31 => X11_skying_J107 N 264 p31) Q; rw [if_neg (fun u => u rfl)]; exact w
  refine wp_b (g264 (by decide)) ?_
  rw [rs.1.2.1]
  by_cases q1 : rsg T len a = 1
  rotate_left
  · rw [if_pos q1]
    refine J50 (fun u => q1 ?_)
    unfold rsg
    rw [if_neg (by have := u.1; omega), if_pos u.2.2.1]
  have lt : a < len := rs_end rs (by omega)
  have te := tE_in (T := T) lt
  have qL : isLt (T a) := by
    by_cases z : isLt (T a)
    · exact z
    · exfalso
      unfold rsg at q1
      rw [if_neg (by omega), if_neg z] at q1
      by_cases z2 : isDg (T a)
      · rw [if_pos z2] at q1; exact absurd q1 (by decide)
      · rw [if_neg z2] at q1; exact absurd q1 (by decide)
  rw [if_neg (fun u => u q1)]
  refine wp_b (g264 (by decide)) ?_
  refine wp_b (g264 (by decide)) ?_
  have e5 : n 264 5 = ((tE T len a : Nat) : Int) := by rw [rs.1.2.2.2.1, if_neg (by omega)]
  rw [e5, rs.1.1, wI_of2 (x := ((tE T len a : Nat) : Int) - (a : Int)) (by omega) (by omega)]
  refine wp_b (m_is _ _ _ _) ?_
  by_cases q2 : tE T len a - a ≤ 12
  rotate_left
  · rw [← bi_f (show ¬(1 ≤ ((tE T len a : Nat) : Int) - (a : Int) ∧ ((tE T len a : Nat) : Int) - (a : Int) ≤ 12) from by omega), if_pos rfl]
    exact J50 (fun u => q2 u.2.2.2.1)
  rw [← bi_t (show 1 ≤ ((tE T len a : Nat) : Int) - (a : Int) ∧ ((tE T len a : Nat) : Int) - (a : Int) ≤ 12 from by omega), if_neg (by decide)]
  refine wp_b (g264 (by decide)) ?_
  refine wp_b (g264 (by decide)) ?_
  rw [rs.1.2.2.1, rs.1.1]
  by_cases q3 : jnd T a
  · rw [if_pos (rlx_jn lt q3)]
    exact J50 (fun u => u.2.1 q3)
  have nq : ¬rlx T len a = (a : Int) := by
    rw [rlx_lt lt q3 qL]
    by_cases z : ow (lts T a (tE T len a - a)) = -1
    · rw [if_neg (fun u => u z)]
      by_cases z2 : tE T len a - a ≤ 6
      · rw [if_pos z2]; omega
      · rw [if_neg z2]; omega
    · rw [if_pos z]; omega
  rw [if_neg nq]
  unfold X11_skying_J51
  refine wp_b (g264 (by decide)) ?_
  rw [rs.1.1]
  refine sk_loop (T := T) r (e := tE T len a) (by omega) e5 (fun i hi => rs.2.2.2.1 i (by omega)) (tE T len a - a) N a rfl (by omega) (by omega) (fun u => ?_) (fun u => ?_)
  · show Wp (if ¬(1 : Int) = 0 then X11_skying_J107 N 264 n else _) Q
    rw [if_pos (by decide)]
    have g : skG T a (tE T len a - a) := ⟨q2, fun i hi => u (a + i) (by omega) (by omega)⟩
    unfold X11_skying_J107
    refine wp_b (g264 (by decide)) ?_
    rw [rs.2.1, if_pos (by decide)]
    refine sk_write hN r rs lt hB i40 g (fun n2 r2 o2 ox oi => ?_)
    have rs2 : RS n2 T len a := rs_off rs (fun j _ => by rw [o2 264 (by decide)]) (o2 265 (by decide))
    obtain ⟨n3, e3, f3, rs3, r3⟩ := m_goN hN r2 rs2 lt
    refine wp_b e3 ?_
    exact wp_some (y ⟨lt, q3, qL, g⟩ n3 r3 rs3 (fun b h1 h2 => by rw [f3.1 b h2, o2 b h1]) (fun j hj => by rw [f3.2 j hj, o2 264 (by decide)]) (fun x hx => by rw [f3.1 279 (by decide)]; exact ox x hx) (fun i hi => by rw [f3.1 279 (by decide)]; exact oi i hi))
  · show Wp (if ¬(0 : Int) = 0 then X11_skying_J107 N 264 n else (getI 11 4 264 n).bind fun t30 => (X11_blame 264 1 t30 n).bind fun p31 => X11_skying_J107 N 264 p31) Q
    rw [if_neg (fun v => v rfl)]
    exact bad (fun v => u (fun i h1 h2 => by
      have := v.2.2.2.2 (i - a) (by omega)
      rw [show a + (i - a) = i from by omega] at this
      exact this))
theorem st_sky {N : Nat} (hN : 2000 ≤ N) {m n : Mem} {a : Nat} {s : Int} {I : Isl} {l : Lnd} (j : JI T len K D B m0 n0 m n a s I l) (k : kdP T len a = (2, 10)) : Wp (sW 10 (fun m => two (X6_letters N 5 D m)) m) (fun v => Wp (X11_skying N 264 n) (fun n2 => Po T len K D B m0 n0 a s v n2)) := by
  obtain ⟨⟨r, r2, rp, rs⟩, js, e11, ab⟩ := j
  have al := rp_le rp
  have os := (own_same (T := T) al (i := 10) (by decide)).mp k
  have lt := rs_end rs (by have := os.2.1; omega)
  obtain ⟨n2, e, f2, rs2, r3⟩ := m_countsG hN r2 rs lt (full := 0) rfl
  obtain ⟨i, d, pe, kf, kz⟩ := id rp
  have ek := rp_kd (m := m) (K := K) pe kf
  unfold X11_skying
  refine wp_rk k264 ?_
  refine wp_r e ?_
  refine wp_bw (x_word r d 10 (Q := fun p => p.1 = 1 ∧ RD p.2 T len K (i + 1) ∧ ReF J14 m p.2) (fun _ m2 d2 f => ⟨rfl, d2, f⟩) (fun u => absurd (by rw [ek]; exact k) u)) (fun v hv => ?_)
  obtain ⟨v1, d2, f⟩ := hv
  rw [v1, if_neg (by decide)]
  have rm := ref_refs (fun j h => by omega) f r
  have pe2 : posA T len (i + 1) = nx T len a := by show nx T len (posA T len i) = _; rw [pe]
  have ask : askA T len (i + 1) = true := by
    show decide ((kdA T len i).1 = 2 ∧ (kdA T len i).2 = 10) = true
    rw [ek, k]; rfl
  have js2 := js_mv (fun j h => by omega) js f f2
  obtain ⟨a1, ha1⟩ : ∃ a1, a1 = nx T len a := ⟨_, rfl⟩
  have nx1 := nx_in (T := T) lt
  rw [← ha1] at pe2 rs2 nx1
  have ek2 : kdA T len (i + 1) = kdC T len true a1 := by
    show kdC T len (askA T len (i + 1)) (posA T len (i + 1)) = _
    rw [ask, pe2]
  obtain ⟨ks1, ks2⟩ := kd_sky T nx1.2
  obtain ⟨⟨pd, sd1, sd2⟩, ld, rw', gw, cf, rf⟩ := id js2
  have hD := pd.1
  have hB := rw'.1.1
  refine wrap ?_
  by_cases g : skY T len a1
  · obtain ⟨m3, e3, rp3, pd3, r3', o3, o5⟩ := x_letters hN rm d2 (by rw [f.2 9 (by omega), f.2 10 (by omega)]; exact kz) pe2 pd (by rw [ek2]; exact ks1 g) g.2.2.2.1
    refine wp_of e3 ?_
    refine m_skying (B := B) hN r3 rs2 hB rw'.1.2.1 (fun _ n4 r4 rs4 o4 o264 ox oi => ?_) (fun u => absurd g u) rfl
    have nx2 := nx_in (T := T) g.1
    refine Or.inl ⟨rfl, nx T len a1, skI I (skV T a1 (tE T len a1 - a1)) 12, l, by omega, ⟨r3', r4, rp3, rs4⟩, ⟨⟨pd3, sd_off sd1 (fun q q1 q2 => o3 q (by omega) (by omega)), sd_off sd2 (fun q q1 q2 => o3 q (by omega) (by omega))⟩, ld_off ld (fun b h1 h2 => o3 b (by omega) (by omega)), ?_, gw_sky gw _ _, cf_up cf (fun b j h1 h2 => ?_), rf_up rf (fun b j h1 h2 h3 => ?_)⟩, ?_, ?_⟩
    · have o : ∀ a, 266 ≤ a → a ≤ 290 → ¬a = 279 → n4 a = n2 a := fun a _ _ ha => o4 a ha (by omega)
      have o40 : n4 264 40 = n2 264 40 := o264 40 (by decide)
      have o39 : n4 264 39 = n2 264 39 := o264 39 (by decide)
      obtain ⟨⟨hB, i40, i66, i67, i73, i75, r69, r70, r74, r78⟩, r68, r67, r79, ⟨s84, s85, s86⟩, w71, ⟨c72, nk, nt⟩, ⟨d0, d1⟩, ⟨e0, e1⟩, q39⟩ := rw'
      refine ⟨⟨hB, (by rw [o40]; exact i40), (by rw [o 266 (by decide) (by decide) (by decide)]; exact i66), (by rw [o 267 (by decide) (by decide) (by decide)]; exact i67), (by rw [o 273 (by decide) (by decide) (by decide)]; exact i73), (by rw [o 275 (by decide) (by decide) (by decide)]; exact i75), (by rw [o 269 (by decide) (by decide) (by decide)]; exact r69), (by rw [o 270 (by decide) (by decide) (by decide)]; exact r70), (by rw [o 274 (by decide) (by decide) (by decide)]; exact r74), (by rw [o 278 (by decide) (by decide) (by decide)]; exact r78)⟩, (by rw [o 268 (by decide) (by decide) (by decide)]; exact r68), (by rw [o 276 (by decide) (by decide) (by decide), o 277 (by decide) (by decide) (by decide)]; exact r67), ?_, ⟨(by rw [o 284 (by decide) (by decide) (by decide)]; exact s84), (by rw [o 285 (by decide) (by decide) (by decide)]; exact s85), (by rw [o 286 (by decide) (by decide) (by decide)]; exact s86)⟩, (by rw [o 271 (by decide) (by decide) (by decide)]; exact w71), ⟨(by rw [o 272 (by decide) (by decide) (by decide)]; exact c72), (by rw [o 289 (by decide) (by decide) (by decide)]; exact nk), ?_⟩, ⟨(by unfold SM CdM; rw [o 280 (by decide) (by decide) (by decide), o 281 (by decide) (by decide) (by decide), o 287 (by decide) (by decide) (by decide), o 288 (by decide) (by decide) (by decide)]; exact d0), (by rw [o 280 (by decide) (by decide) (by decide), o39]; exact d1)⟩, ⟨(by unfold SM CdM; rw [o 282 (by decide) (by decide) (by decide), o 283 (by decide) (by decide) (by decide), o 287 (by decide) (by decide) (by decide), o 288 (by decide) (by decide) (by decide)]; exact e0), (by rw [o 282 (by decide) (by decide) (by decide), o39]; exact e1)⟩, (by rw [o39]; exact q39)⟩
      · intro h hh
        rw [oi h hh]
        show _ = (if 1 ≤ (h : Int) + 1 ∧ (h : Int) + 1 ≤ ((12 : Nat) : Int) then skV T a1 (tE T len a1 - a1) ((h : Int) + 1 - 1).toNat else I 15 ((h : Int) + 1))
        rw [if_pos (by omega), show ((h : Int) + 1 - 1).toNat = h from by omega]
      · rw [o 290 (by decide) (by decide) (by decide), clTo_c (skI_k (by decide))]
        exact nt
    · show m3 b j = v.2 b j
      by_cases q : b = 5
      · rw [q]; exact o5 j (fun u => h1 ⟨q, u.1⟩)
      · rw [o3 b q (by omega)]
    · by_cases q : b = 264
      · rw [q]; exact o264 j (fun u => h1 ⟨q, by omega⟩)
      · by_cases q2 : b = 279
        · rw [q2]
          exact ox j (fun u => h3 (by unfold inBk; omega))
        · rw [o4 b q2 q]
    · show m3 5 11 = s
      rw [o5 11 (by omega), f.2 11 (by omega)]; exact e11
    · show nD I + nR I ≤ nx T len a1
      omega
  · obtain ⟨n4, pl⟩ := ks2 g
    unfold X6_letters
    refine wp_k k5r ?_
    refine wp_b (gtI (by decide +kernel) _) ?_
    rw [d2.2.2.2.1, ek2, if_neg n4]
    obtain ⟨m3, e3, t3⟩ := x_unexpected d2
    have pc : plC T len (i + 1) = (a1 : Int) := by
      unfold plC
      rw [ek2, pe2]
      exact pl
    rw [pc] at t3
    refine wp_b e3 ?_
    refine wp_b (v := 0) rfl ?_
    refine wp_some ?_
    refine m_skying (B := B) hN r3 rs2 hB rw'.1.2.1 (fun u => absurd u g) (fun _ => ?_) rfl
    exact no_po (I := I) (l := l) (no_of (by decide) rm r3 js2 t3 ⟨n2, ahf_refl n2, rfl⟩)
