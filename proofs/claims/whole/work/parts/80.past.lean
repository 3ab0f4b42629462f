/-! what can be undone; draws -/
/-- what is true of every land of an island -/
def GL (I : Isl) (l : Lnd) : Prop := Tc I l ∧ (∀ c : Int, 0 ≤ c → c < 42 → l 0 c = 0 ∨ l 0 c = 1) ∧ (∀ c : Int, nC I ≤ c → c < 42 → l 0 c = 0) ∧ Dr I l ∧ (∀ t : Int, 0 ≤ t → t < I 9 0 → ¬I 11 t = 0 → l 1 t = I 21 t) ∧ ∀ t u : Int, 0 ≤ t → t < I 9 0 → 0 ≤ u → u < I 9 0 → l 1 t = l 1 u → t = u
def PX (m : Mem) (c nx : Nat) (ls : Nat → Lnd) : Prop := m 77 2 = (c : Int) ∧ m 77 1 = (nx : Int) ∧ c ≤ 20 ∧ nx < 20 ∧ ∀ i, i < c → LD m (79 + 4 * ((nx + 20 - c + i) % 20)) (ls i)
def PM (m : Mem) (c uf n : Nat) (ls : Nat → Lnd) : Prop := m 264 55 = (c : Int) ∧ m 264 54 = (uf : Int) ∧ c ≤ 20 ∧ uf < 20 ∧ ∀ i, i < c → MY m (2 + (uf + i) % 20) (ls i) n
/-- one more land is kept -/
def psh (ls : Nat → Lnd) (c : Nat) (l : Lnd) : Nat → Lnd := fun i => if c = 20 then (if i = 19 then l else ls (i + 1)) else if i = c then l else ls i
theorem kept_c : ∀ x, x < 20 → (isCon 78 x && (shK 78 == 3 || shK 78 == 4) && decide (x < shN 78) && decide (79 + 4 * x ≠ 0) && mo LM 78 x == ((79 + 4 * x : Nat) : Int) && isLd (79 + 4 * x)) = true := by decide +kernel
theorem kept_R {m : Mem} (r : Refs m) {x : Nat} (h : x < 20) : aldR 78 (x : Int) m = some (79 + 4 * x) := by
  have q := kept_c x h
  rw [Bool.and_eq_true] at q
  exact rca r rfl (79 + 4 * x) q.1
theorem kept_L {x : Nat} (h : x < 20) : isLd (79 + 4 * x) = true := by
  have q := kept_c x h
  rw [Bool.and_eq_true] at q
  exact q.2
theorem k77 : shK 77 = 4 + 10 ∧ shN 77 = 3 := by decide +kernel
theorem g77 {m : Mem} {k : Nat} (h : k < 3) : getI 4 k 77 m = some (m 77 k) := if_pos ⟨k77.1, by rw [k77.2]; exact h⟩
theorem p77 {m : Mem} {k : Nat} (h : k < 3) (v : Int) : putI 4 k 77 v m = some (up m 77 k v) := if_pos ⟨k77.1, by rw [k77.2]; exact h⟩
theorem i77 : isRef 77 1 = false ∧ isRef 77 2 = false := by decide +kernel
theorem x_remember {m : Mem} {l : Lnd} {c nx : Nat} {ls : Nat → Lnd} (r : Refs m) (h : LD m 69 l) (p : PX m c nx ls) : Wp (X4_remember 77 69 m) (fun m2 => ∃ c2 nx2, c2 = min (c + 1) 20 ∧ PX m2 c2 nx2 (psh ls c l) ∧ Refs m2 ∧ Off (fun a => a = 77 ∨ 79 ≤ a ∧ a ≤ 158) m m2) := by
  obtain ⟨p1, p2, p3, p4, p5⟩ := p
  unfold X4_remember
  refine wp_k k77.1 ?_
  refine wp_b (rc r 78 (by decide +kernel)) ?_
  refine wp_b (g77 (by decide)) ?_
  rw [p2]
  refine wp_b (kept_R r p4) ?_
  refine wp_bw (x_copy r (kept_L p4) h (by omega)) (fun m2 hm2 => ?_)
  obtain ⟨h2, r2, o2⟩ := hm2
  have oo : ∀ a, ¬(79 + 4 * nx ≤ a ∧ a ≤ 79 + 4 * nx + 3) → m2 a = m a := o2
  refine wp_b (g77 (by decide)) ?_
  rw [oo 77 (by omega), p2, wI_of2 (x := (nx : Int) + 1) (by omega) (by omega), Int.tmod_eq_emod_of_nonneg (by omega), wI_of2 (by omega) (by omega)]
  refine wp_b (p77 (by decide) _) ?_
  refine wp_b (g77 (by decide)) ?_
  rw [up_slot (by decide), oo 77 (by omega), p1, wI_of2 (x := (c : Int) + 1) (by omega) (by omega)]
  refine wp_b (p77 (by decide) _) ?_
  refine wp_some ⟨min (c + 1) 20, (nx + 1) % 20, rfl, ⟨?_, ?_, by omega, by omega, fun i hi => ?_⟩, refs_up (refs_up r2 i77.1 _) i77.2 _, fun a ha => ?_⟩
  · rw [up_same]; omega
  · rw [up_slot (by decide), up_same]; omega
  · have far : ∀ x, x < 20 → ¬x = nx → ∀ l2, LD m (79 + 4 * x) l2 → LD (up (up m2 77 1 (((nx : Int) + 1) % 20)) 77 2 (min ((c : Int) + 1) 20)) (79 + 4 * x) l2 := by
      intro x hx hn l2 hl
      refine ld_off hl fun a a1 a2 => ?_
      rw [up_setA, setA_ne (by omega), up_setA, setA_ne (by omega)]
      exact oo a (by omega)
    have me : LD (up (up m2 77 1 (((nx : Int) + 1) % 20)) 77 2 (min ((c : Int) + 1) 20)) (79 + 4 * nx) l := by
      refine ld_off h2 fun a a1 a2 => ?_
      rw [up_setA, setA_ne (by omega), up_setA, setA_ne (by omega)]
    unfold psh
    by_cases q : c = 20
    · rw [if_pos q]
      by_cases y : i = 19
      · rw [if_pos y, show ((nx + 1) % 20 + 20 - min (c + 1) 20 + i) % 20 = nx from by omega]; exact me
      · rw [if_neg y, show ((nx + 1) % 20 + 20 - min (c + 1) 20 + i) % 20 = (nx + 20 - c + (i + 1)) % 20 from by omega]
        exact far _ (by omega) (by omega) _ (p5 (i + 1) (by omega))
    · rw [if_neg q]
      by_cases y : i = c
      · rw [if_pos y, show ((nx + 1) % 20 + 20 - min (c + 1) 20 + i) % 20 = nx from by omega]; exact me
      · rw [if_neg y, show ((nx + 1) % 20 + 20 - min (c + 1) 20 + i) % 20 = (nx + 20 - c + i) % 20 from by omega]
        exact far _ (by omega) (by omega) _ (p5 i (by omega))
  · rw [up_setA, setA_ne (fun e => ha (Or.inl e)), up_setA, setA_ne (fun e => ha (Or.inl e))]
    exact oo a (fun y => ha (by omega))
theorem x_restore {m : Mem} {c nx : Nat} {ls : Nat → Lnd} (r : Refs m) (p : PX m (c + 1) nx ls) : Wp (X4_restore 77 69 m) (fun m2 => ∃ nx2, PX m2 c nx2 ls ∧ LD m2 69 (ls c) ∧ Refs m2 ∧ Off (fun a => a = 77 ∨ 69 ≤ a ∧ a ≤ 72) m m2) := by
  obtain ⟨p1, p2, p3, p4, p5⟩ := p
  have l69 : isLd 69 = true := by decide
  unfold X4_restore
  refine wp_k k77.1 ?_
  refine wp_b (g77 (by decide)) ?_
  rw [p1, if_neg (by omega)]
  refine wp_b (g77 (by decide)) ?_
  rw [p2, wI_of2 (x := (nx : Int) + 20) (by omega) (by omega), wI_of2 (x := (nx : Int) + 20 - 1) (by omega) (by omega), Int.tmod_eq_emod_of_nonneg (by omega), wI_of2 (by omega) (by omega)]
  refine wp_b (p77 (by decide) _) ?_
  have r1 := refs_up r i77.1 (((nx : Int) + 20 - 1) % 20)
  refine wp_b (rc r1 78 (by decide +kernel)) ?_
  refine wp_b (g77 (by decide)) ?_
  rw [up_same, show ((nx : Int) + 20 - 1) % 20 = (((nx + 19) % 20 : Nat) : Int) from by omega]
  rw [show ((nx : Int) + 20 - 1) % 20 = (((nx + 19) % 20 : Nat) : Int) from by omega] at r1
  refine wp_b (kept_R r1 (by omega)) ?_
  have hk : LD (up m 77 1 (((nx + 19) % 20 : Nat) : Int)) (79 + 4 * ((nx + 19) % 20)) (ls c) := by
    have := p5 c (by omega)
    rw [show (nx + 20 - (c + 1) + c) % 20 = (nx + 19) % 20 from by omega] at this
    refine ld_off this fun a a1 a2 => ?_
    rw [up_setA, setA_ne (by omega)]
  refine wp_bw (x_copy r1 l69 hk (by omega)) (fun m2 hm2 => ?_)
  obtain ⟨h2, r2, o2⟩ := hm2
  have oo : ∀ a, ¬(69 ≤ a ∧ a ≤ 69 + 3) → m2 a = up m 77 1 (((nx + 19) % 20 : Nat) : Int) a := o2
  refine wp_b (g77 (by decide)) ?_
  rw [oo 77 (by omega), up_slot (by decide), p1, wI_of2 (by omega) (by omega)]
  refine wp_b (p77 (by decide) _) ?_
  refine wp_some ⟨(nx + 19) % 20, ⟨?_, ?_, by omega, by omega, fun i hi => ?_⟩, ?_, refs_up r2 i77.2 _, fun a ha => ?_⟩
  · rw [up_same]; omega
  · rw [up_slot (by decide), oo 77 (by omega), up_same]
  · have := p5 i (by omega)
    rw [show ((nx + 19) % 20 + 20 - c + i) % 20 = (nx + 20 - (c + 1) + i) % 20 from by omega]
    refine ld_off this fun a a1 a2 => ?_
    rw [up_setA, setA_ne (by omega), oo a (by omega), up_setA, setA_ne (by omega)]
  · refine ld_off h2 fun a a1 a2 => ?_
    rw [up_setA, setA_ne (by omega)]
  · rw [up_setA, setA_ne (fun e => ha (Or.inl e)), oo a (fun y => ha (Or.inr (by omega))), up_setA, setA_ne (fun e => ha (Or.inl e))]
/-- the reference's lands and its ring alone have changed -/
def RiF (m m2 : Mem) : Prop := (∀ a, ¬(a = 264 ∨ 296 ≤ a ∧ a ≤ 299) → m2 a = m a) ∧ ∀ j, ¬(j = 54 ∨ j = 55) → m2 264 j = m 264 j
theorem rif_c : isRef 264 54 = false ∧ isRef 264 55 = false ∧ isRef 264 56 = false := by decide +kernel
theorem up_my {m : Mem} {v n j : Nat} {l : Lnd} {x : Int} (h : MY m v l n) : MY (up m 264 j x) v l n := ml_off h fun a _ _ => by rw [up_setA, setA_ne (by omega)]
theorem lyf_264 {v : Nat} {m m2 : Mem} (h : LyF v m m2) : m2 264 = m 264 := h.1 264 (by omega)
theorem m_ring {m : Mem} {uf : Nat} (h : m 264 54 = (uf : Int)) (hu : uf < 20) {k : Nat} (hk : k < 21) : X11_ring 264 k m = some (((2 + (uf + k) % 20 : Nat) : Int)) := by
  unfold X11_ring
  rw [if_pos k264, g264 (by decide), Option.bind_some, h, wI_of2 (x := (uf : Int) + k) (by omega) (by omega), Int.tmod_eq_emod_of_nonneg (by omega), wI_of2 (x := ((uf : Int) + k) % 20) (by omega) (by omega), wI_of2 (by omega) (by omega)]
  congr 1
theorem m_keepsJ {N : Nat} (hN : 2000 ≤ N) {m : Mem} {l : Lnd} {c uf n : Nat} (r : Refs m) (h : MY m 0 l n) (h1 : m 264 55 = (c : Int)) (h2 : m 264 54 = (uf : Int)) (hc : c < 20) (hu : uf < 20) : Wp (X11_keeps_J32 N 264 m) (fun m2 => MY m2 0 l n ∧ m2 264 55 = ((c + 1 : Nat) : Int) ∧ m2 264 54 = (uf : Int) ∧ Refs m2 ∧ RiF m m2 ∧ MY m2 (2 + (uf + c) % 20) l n ∧ ∀ v l2, ¬v = 2 + (uf + c) % 20 → MY m v l2 n → MY m2 v l2 n) := by
  unfold X11_keeps_J32
  refine wp_b (g264 (by decide)) ?_
  rw [h1]
  refine wp_b (m_ring h2 hu (k := c) (by omega)) ?_
  refine wp_bw (m_copies hN (to := 2 + (uf + c) % 20) (fr := 0) r h (by omega) (by omega)) (fun m2 hm2 => ?_)
  obtain ⟨h3, f⟩ := hm2
  have e264 := lyf_264 f
  refine wp_b (g264 (by decide)) ?_
  rw [e264, h1, wI_of2 (by omega) (by omega)]
  refine wp_b (p264 (by decide) _ _) ?_
  refine wp_some ⟨up_my (lyf_my f (by omega) h), ?_, ?_, refs_up (lyf_refs f r) rif_c.2.1 _, ⟨fun a ha => ?_, fun j hj => ?_⟩, up_my h3, fun v l2 hv hl => up_my (lyf_my f hv hl)⟩
  · rw [up_same]; omega
  · rw [up_slot (by decide), e264]; exact h2
  · rw [up_setA, setA_ne (by omega)]; exact f.1 a (by omega)
  · rw [up_at, if_neg (by omega), e264]
theorem m_keeps {N : Nat} (hN : 2000 ≤ N) {m : Mem} {l : Lnd} {c uf n : Nat} {ls : Nat → Lnd} (r : Refs m) (h : MY m 0 l n) (p : PM m c uf n ls) : Wp (X11_keeps N 264 m) (fun m2 => ∃ c2 uf2, c2 = min (c + 1) 20 ∧ PM m2 c2 uf2 n (psh ls c l) ∧ MY m2 0 l n ∧ Refs m2 ∧ RiF m m2) := by
  obtain ⟨p1, p2, p3, p4, p5⟩ := p
  unfold X11_keeps
  refine wp_k k264 ?_
  refine wp_b (g264 (by decide)) ?_
  rw [p1]
  by_cases q : c = 20
  · subst q
    rw [if_neg (by decide)]
    refine wp_b (g264 (by decide)) ?_
    rw [p2, wI_of2 (x := (uf : Int) + 1) (by omega) (by omega), Int.tmod_eq_emod_of_nonneg (by omega), wI_of2 (by omega) (by omega), show ((uf : Int) + 1) % 20 = (((uf + 1) % 20 : Nat) : Int) from by omega]
    refine wp_b (p264 (by decide) _ _) ?_
    refine wp_b (g264 (by decide)) ?_
    rw [up_slot (by decide), p1, show wI (((20 : Nat) : Int) - 1) = ((19 : Nat) : Int) from by decide]
    refine wp_b (p264 (by decide) _ _) ?_
    refine wp_c (m_keepsJ hN (c := 19) (uf := (uf + 1) % 20) (refs_up (refs_up r rif_c.1 _) rif_c.2.1 _) (up_my (up_my h)) (up_same _ _ _ _) (by rw [up_slot (by decide)]; exact up_same _ _ _ _) (by decide) (by omega)) (fun m2 hm => ?_)
    obtain ⟨a1, a2, a3, a4, a5, a6, a7⟩ := hm
    refine ⟨20, (uf + 1) % 20, by omega, ⟨a2, a3, by omega, by omega, fun i hi => ?_⟩, a1, a4, ⟨fun a ha => ?_, fun j hj => ?_⟩⟩
    · unfold psh
      rw [if_pos rfl]
      by_cases y : i = 19
      · rw [if_pos y, y]; exact a6
      · rw [if_neg y]
        have e : 2 + (uf + (i + 1)) % 20 = 2 + ((uf + 1) % 20 + i) % 20 := by omega
        have := p5 (i + 1) (by omega)
        rw [e] at this
        exact a7 _ _ (by omega) (up_my (up_my this))
    · rw [a5.1 a ha, up_setA, setA_ne (by omega), up_setA, setA_ne (by omega)]
    · rw [a5.2 j hj, up_at, if_neg (by omega), up_at, if_neg (by omega)]
  · rw [if_pos (by omega)]
    refine wp_c (m_keepsJ hN r h p1 p2 (by omega) p4) (fun m2 hm => ?_)
    obtain ⟨a1, a2, a3, a4, a5, a6, a7⟩ := hm
    refine ⟨c + 1, uf, by omega, ⟨a2, a3, by omega, p4, fun i hi => ?_⟩, a1, a4, a5⟩
    unfold psh
    rw [if_neg q]
    by_cases y : i = c
    · rw [if_pos y, y]; exact a6
    · rw [if_neg y]
      exact a7 _ _ (by omega) (p5 i (by omega))
theorem m_undoJ {N : Nat} (hN : 2000 ≤ N) {m : Mem} {l0 : Lnd} {c uf n : Nat} {ls : Nat → Lnd} (r : Refs m) (h : MY m 0 l0 n) (p : PM m (c + 1) uf n ls) : Wp (X11_undo N 264 m) (fun q => q.1 = 1 ∧ PM q.2 c uf n ls ∧ MY q.2 0 (ls c) n ∧ Refs q.2 ∧ RiF m q.2) := by
  obtain ⟨p1, p2, p3, p4, p5⟩ := p
  unfold X11_undo
  refine wp_k k264 ?_
  refine wp_b (g264 (by decide)) ?_
  rw [p1, if_pos (by omega)]
  refine wp_b (g264 (by decide)) ?_
  rw [p1, show wI (((c + 1 : Nat) : Int) - 1) = (c : Int) from by rw [wI_of2 (by omega) (by omega)]; omega]
  refine wp_b (p264 (by decide) _ _) ?_
  refine wp_b (g264 (by decide)) ?_
  rw [up_same]
  have r1 := refs_up r rif_c.2.1 (c : Int)
  have e54 : up m 264 55 (c : Int) 264 54 = (uf : Int) := by rw [up_slot (by decide)]; exact p2
  refine wp_b (m_ring e54 p4 (by omega)) ?_
  refine wp_bw (m_copies hN (to := 0) (fr := 2 + (uf + c) % 20) r1 (up_my (p5 c (by omega))) (by omega) (by omega)) (fun m2 hm2 => ?_)
  obtain ⟨h3, f⟩ := hm2
  have e264 := lyf_264 f
  refine wp_some ⟨rfl, ⟨?_, ?_, by omega, p4, fun i hi => ?_⟩, h3, lyf_refs f r1, ⟨fun a ha => ?_, fun j hj => ?_⟩⟩
  · show m2 264 55 = _
    rw [e264, up_same]
  · show m2 264 54 = _
    rw [e264]; exact e54
  · exact lyf_my f (by omega) (up_my (p5 i (by omega)))
  · show m2 a = _
    rw [f.1 a (by omega), up_setA, setA_ne (by omega)]
  · show m2 264 j = _
    rw [e264, up_at, if_neg (by omega)]
theorem land_low {x : Int} (h0 : 0 ≤ x) (h1 : x < 9223372036854775808) : land x 2147483647 = x % 2147483648 := by
  have e : land x 2147483647 = (BitVec.ofInt 64 x &&& BitVec.ofInt 64 2147483647).toInt := rfl
  have n2 : (BitVec.ofInt 64 2147483647).toNat = 2 ^ 31 - 1 := by decide
  have n1 : (BitVec.ofInt 64 x).toNat = x.toNat := by
    rw [BitVec.toNat_ofInt]
    omega
  have n : (BitVec.ofInt 64 x &&& BitVec.ofInt 64 2147483647).toNat = x.toNat % 2147483648 := by
    rw [BitVec.toNat_and, n2, n1, Nat.and_two_pow_sub_one_eq_mod]
  rw [e, BitVec.toInt_eq_toNat_of_lt (by rw [n]; omega), n]
  omega
def nxt (s : Int) : Int := (1103515245 * s + 12345) % 2147483648
/-- the seed behind so many draws -/
def sdN (s : Int) : Nat → Int
  | 0 => s
  | n + 1 => nxt (sdN s n)
theorem sdN_in {s : Int} (h0 : 0 ≤ s) (h1 : s < 2147483648) (n : Nat) : 0 ≤ sdN s n ∧ sdN s n < 2147483648 := by
  cases n with
  | zero => exact ⟨h0, h1⟩
  | succ n =>
    show 0 ≤ nxt (sdN s n) ∧ nxt (sdN s n) < 2147483648
    unfold nxt
    omega
theorem x_draw {m : Mem} {s : Int} (h : m 3 8 = s) (h0 : 0 ≤ s) (h1 : s < 2147483648) : X10_drawOfHundred 3 m = some (nxt s / 64 % 100, up m 3 8 (nxt s)) := by
  have b : 0 ≤ nxt s ∧ nxt s < 2147483648 := by unfold nxt; omega
  refine wp_eq ?_
  unfold X10_drawOfHundred
  refine wp_k k3 ?_
  refine wp_b (gtI (by decide +kernel) _) ?_
  rw [h, wL_of2 (x := 1103515245 * s) (by omega) (by omega), wL_of2 (x := 1103515245 * s + 12345) (by omega) (by omega), land_low (by omega) (by omega), show (1103515245 * s + 12345) % 2147483648 = nxt s from rfl, wI_of2 (x := nxt s) (by omega) (by omega)]
  refine wp_b (ptI (by decide +kernel) _ _) ?_
  refine wp_b (gtI (by decide +kernel) _) ?_
  rw [up_same, Int.tdiv_eq_ediv_of_nonneg b.1, wI_of2 (x := nxt s / 64) (by omega) (by omega), Int.tmod_eq_emod_of_nonneg (by omega), wI_of2 (by omega) (by omega)]
  exact wp_some rfl
theorem m_draw {m : Mem} {s : Int} (h : m 264 56 = s) (h0 : 0 ≤ s) (h1 : s < 2147483648) : X11_draw 264 100 m = some (nxt s / 64 % 100, up m 264 56 (nxt s)) := by
  have b : 0 ≤ nxt s ∧ nxt s < 2147483648 := by unfold nxt; omega
  refine wp_eq ?_
  unfold X11_draw
  refine wp_k k264 ?_
  refine wp_b (gtI (by decide +kernel) _) ?_
  rw [h, wL_of2 (x := 1103515245 * s) (by omega) (by omega), wL_of2 (x := 1103515245 * s + 12345) (by omega) (by omega), Int.tmod_eq_emod_of_nonneg (by omega), show (1103515245 * s + 12345) % 2147483648 = nxt s from rfl, wL_of2 (x := nxt s) (by omega) (by omega)]
  refine wp_b (ptI (by decide +kernel) _ _) ?_
  refine wp_b (gtI (by decide +kernel) _) ?_
  rw [up_same, if_neg (by decide), Int.tdiv_eq_ediv_of_nonneg b.1, wL_of2 (x := nxt s / 64) (by omega) (by omega), Int.tmod_eq_emod_of_nonneg (by omega), wL_of2 (x := nxt s / 64 % 100) (by omega) (by omega), wI_of2 (by omega) (by omega)]
  exact wp_some rfl
