/-! a sum under way: the steps of both -/
variable {T : Nat → Int} {len K D B S So p p2 ko f0 : Nat} {co : Int → Int} {s : Int} {m0 n0 : Mem} {I : Isl} {l : Lnd}
theorem ms_mv {m n m2 n2 : Mem} {a a2 k R e : Nat} {J : Nat → Prop} (hJ : ∀ j, J j → 1 ≤ j ∧ j ≤ 10) (h : MS T len K D B S So p p2 co ko f0 s m0 n0 I l m n a k R e) (f : ReF J m m2) (g : AhF n n2) (rp : RP m2 T len K a2) (rs : RS n2 T len a2) (la : a ≤ a2) (r2 : Refs n2) : MS T len K D B S So p p2 co ko f0 s m0 n0 I l m2 n2 a2 k R e := by
  obtain ⟨⟨r, _, sc, ⟨pd, ld, sd⟩, rw', ot, cf, rf, e11⟩, _, ek, ⟨c1, c2⟩, ⟨bd, hR⟩, w⟩ := h
  obtain ⟨sS, s1, s2, s3, s4, s5, s6⟩ := sc_S sc
  have hD := pd.1
  have eS : m2 (S + 1) = m (S + 1) := f.1 _ (by omega)
  refine ⟨⟨ref_refs (fun j h => by have := hJ j h; omega) f r, r2, sc, ⟨pd_rf f pd, ld_rf f (by omega) ld, sd_off sd (fun q q1 q2 => f.1 q (by omega))⟩, rw0_off rw' (g.2 40 (by decide)) (fun b b1 _ _ _ => g.1 b (by omega)), ?_, cf_up cf (fun b j h1 _ => ?_), rf_up rf (fun b j h1 _ _ => ?_), by rw [f.2 11 (fun u => by have := hJ 11 u; omega)]; exact e11⟩, ⟨rp, rs⟩, lns_off ek (fun q q1 q2 => f.1 q (by omega)), ⟨by rw [g.2 39 (by decide)]; exact c1, fun i hi => by rw [g.1 287 (by decide), g.1 288 (by decide), eS]; exact c2 i hi⟩, ⟨by omega, hR⟩, ?_⟩
  · have hp : p = 282 ∧ p2 = 283 ∨ p = 280 ∧ p2 = 281 := by unfold SC at sc; omega
    exact oth_off ot (by rw [g.1 p (by omega)]) (by rw [g.1 p2 (by omega)]) (by rw [g.1 (562 - p) (by omega)]) (fun x _ => ⟨by rw [g.1 287 (by decide)], by rw [g.1 288 (by decide)]⟩)
  · by_cases q : b = 5
    · rw [q]; exact f.2 j (fun u => h1 ⟨q, (hJ j u).1⟩)
    · rw [f.1 b q]
  · by_cases q : b = 264
    · rw [q]; exact g.2 j (fun u => h1 ⟨q, by omega⟩)
    · rw [g.1 b q]
  · have : cM m2 S f0 = cM m S f0 := by unfold cM; rw [eS]
    rw [this]; exact w
/-- the stack alone changes -/
theorem ms_st {m n n2 : Mem} {a k R e : Nat} (h : MS T len K D B S So p p2 co ko f0 s m0 n0 I l m n a k R e) (r2 : Refs n2) (o : ∀ b, ¬b = 264 → ¬(291 ≤ b ∧ b ≤ 294) → n2 b = n b) (o2 : ∀ j, ¬(j = 44 ∨ j = 45 ∨ j = 47 ∨ j = 48) → n2 264 j = n 264 j) : MS T len K D B S So p p2 co ko f0 s m0 n0 I l m n2 a k R e := by
  obtain ⟨⟨r, _, sc, pl, rw', ot, cf, rf, e11⟩, ⟨rp, rs⟩, ek, ⟨c1, c2⟩, bd, w⟩ := h
  have hp : p = 282 ∧ p2 = 283 ∨ p = 280 ∧ p2 = 281 := by unfold SC at sc; omega
  refine ⟨⟨r, r2, sc, pl, rw0_off rw' (o2 40 (by decide)) (fun b b1 b2 _ _ => o b (by omega) (by omega)), oth_off ot (by rw [o p (by omega) (by omega)]) (by rw [o p2 (by omega) (by omega)]) (by rw [o (562 - p) (by omega) (by omega)]) (fun x _ => ⟨by rw [o 287 (by decide) (by decide)], by rw [o 288 (by decide) (by decide)]⟩), cf, rf_up rf (fun b j h1 h2 _ => ?_), e11⟩, ⟨rp, rs_off rs (fun j hj => o2 j (by omega)) (o 265 (by decide) (by decide))⟩, ek, ⟨by rw [o2 39 (by decide)]; exact c1, fun i hi => by rw [o 287 (by decide) (by decide), o 288 (by decide) (by decide)]; exact c2 i hi⟩, bd, w⟩
  by_cases q : b = 264
  · rw [q]; exact o2 j (fun u => h1 ⟨q, by omega⟩)
  · rw [o b q h2]
/-- the class adds a code ahead of the reference -/
theorem ms_addX {m n m2 : Mem} {a k R e : Nat} {v : Int} (h : MS T len K D B S So p p2 co ko f0 s m0 n0 I l m n a k R (e + 1)) (e1 : LnS m2 S So f0 (k + 1)) (e2 : m2 (S + 1) (f0 + k) = v) (e3 : ∀ i, ¬i = k → m2 (S + 1) (f0 + i) = m (S + 1) (f0 + i)) (sf : SdF m m2 S So f0) (r2 : Refs m2) (ok : (-10 ≤ v ∧ v ≤ 9999 ∧ dpt (cM m S f0) k ≤ 62) ∨ (isOp v ∧ 2 ≤ dpt (cM m S f0) k)) : MS T len K D B S So p p2 co ko f0 s m0 n0 I l m2 n a (k + 1) R e ∧ dpt (cM m2 S f0) (k + 1) = if v < -10 then dpt (cM m S f0) k - 1 else dpt (cM m S f0) k + 1 := by
  obtain ⟨⟨r, rn, sc, ⟨pd, ld, sd⟩, rw', ot, cf, rf, e11⟩, ⟨rp, rs⟩, ek, ⟨c1, c2⟩, ⟨bd, hR⟩, w⟩ := h
  obtain ⟨sS, s1, s2, s3, s4, s5, s6⟩ := sc_S sc
  have hD := pd.1
  have al := rs.2.2.2.2.1
  have hl := rs.2.2.2.2.2.1
  have o := sf.2.2.2
  obtain ⟨w', d'⟩ := wfp_add (c2 := cM m2 S f0) w (fun i hi => e3 _ (by omega)) (show cM m2 S f0 k = v from e2) ok
  refine ⟨⟨⟨r2, rn, sc, ⟨pd_off pd (fun b b1 b2 _ _ _ => o b (by omega) (by omega) (by omega)), ld_off ld (fun b b1 b2 => o b (by omega) (by omega) (by omega)), sd_add sd ek e1 sf s5 (by omega)⟩, rw', ot, cf_up cf (fun b j _ h2 => by rw [o b (by omega) (by omega) (by omega)]), rf, by rw [o 5 (by omega) (by omega) (by omega)]; exact e11⟩, ⟨rp_off rp (fun b hb => o b (by omega) (by omega) (by omega)), rs⟩, e1, ⟨c1, fun i hi => by rw [e3 i (by omega)]; exact c2 i hi⟩, ⟨by omega, by omega⟩, w'⟩, d'⟩
/-- the reference adds what the class has already -/
theorem ms_addR {m n : Mem} {a k R e : Nat} {sort v : Int} (h : MS T len K D B S So p p2 co ko f0 s m0 n0 I l m n a k R e) (lt : R < k) (hs : sort = cdS (m (S + 1) (f0 + R))) (hv : 0 ≤ m (S + 1) (f0 + R) → v = m (S + 1) (f0 + R)) (la : f0 + R < 1600) : MS T len K D B S So p p2 co ko f0 s m0 n0 I l m (addM n B (f0 + R) sort v) a k (R + 1) e := by
  obtain ⟨⟨r, rn, sc, pl, rw', ot, cf, rf, e11⟩, ⟨rp, rs⟩, ek, ⟨c1, c2⟩, ⟨bd, hR⟩, w⟩ := h
  obtain ⟨o, o2, o39, o87, o88⟩ := addM_o n B (f0 + R) sort v
  have hp : p = 282 ∧ p2 = 283 ∨ p = 280 ∧ p2 = 281 := by unfold SC at sc; omega
  refine ⟨⟨r, addM_r rn _ _ _ _, sc, pl, rw0_off rw' (o2 40 (by decide)) (fun b b1 b2 _ _ => o b (by omega) (by omega) (by omega)), oth_off ot (by rw [o p (by omega) (by omega) (by omega)]) (by rw [o p2 (by omega) (by omega) (by omega)]) (by rw [o (562 - p) (by omega) (by omega) (by omega)]) (fun x hx => ⟨by rw [o87, if_neg (by omega)], by rw [o88, if_neg (by omega)]⟩), cf, rf_up rf (fun b j h1 h2 h3 => ?_), e11⟩, ⟨rp, rs_off rs (fun j hj => o2 j (by omega)) (o 265 (by decide) (by decide) (by decide))⟩, ek, ⟨by rw [o39]; omega, fun i hi => ?_⟩, ⟨bd, by omega⟩, w⟩
  · by_cases q : b = 264
    · rw [q]; exact o2 j (fun u => h1 ⟨q, by omega⟩)
    · by_cases q7 : b = 287
      · rw [q7, o87, if_neg (fun u => h3 (by unfold inBk; omega))]
      · by_cases q8 : b = 288
        · rw [q8, o88, if_neg (fun u => h3 (by unfold inBk; omega))]
        · rw [o b q q7 q8]
  · rw [o87, o88]
    by_cases y : i = R
    · subst y
      rw [if_pos (by omega), if_pos (by omega)]
      exact ⟨hs, hv⟩
    · rw [if_neg (by omega), if_neg (by omega)]
      exact c2 i (by omega)
theorem ms_no {m n m2 n2 : Mem} {a k R e : Nat} {f p' : Int} (h : MS T len K D B S So p p2 co ko f0 s m0 n0 I l m n a k R e) (hf : 0 < f) (t : Told m m2 f p') (g : FtM n n2 f p') : JF D B m0 n0 m2 n2 := by
  obtain ⟨⟨r, rn, sc, pl, rw', ot, cf, rf, e11⟩, _⟩ := h
  have tt := t
  have gg := g
  obtain ⟨n1, a, e⟩ := g
  subst e
  refine ⟨fl_tf hf tt gg, told_refs r tt, ft_refs rn gg, cf_up cf (fun b j h1 _ => ?_), rf_up rf (fun b j h1 _ _ => ?_)⟩
  · by_cases q : b = 5
    · rw [q]; exact t.2.2.2 j (fun u => h1 ⟨q, u.1⟩)
    · rw [t.2.2.1 b q]
  · by_cases q : b = 264
    · rw [q, bl_at (fun u => h1 ⟨q, by omega⟩)]; exact a.2 j (fun u => h1 ⟨q, by omega⟩)
    · rw [bl_ne q, a.1 b q]
/-! the reference's loop -/
abbrev Lr (N F : Nat) (n : Mem) : Option Mem := X11_reads_L35 N F 264 1 n
theorem l_stop {N F : Nat} (n : Mem) : X11_reads_L35 N (F + 1) 264 0 n = some n := by
  show X11_reads_L35_b N (X11_reads_L35 N F) 264 0 n = _
  unfold X11_reads_L35_b
  rw [if_pos rfl]
theorem pz48 {v : Int} (h : v = 0 ∨ v = 1) (n : Mem) : putZ 11 48 264 v n = some (up n 264 48 v) := by
  rcases h with h | h
  · subst h; exact ptZ0 (g264_c 48 (by decide)) n
  · subst h; exact ptZ1 (g264_c 48 (by decide)) n
theorem l_op {N F : Nat} {n n1 : Mem} {v : Int} (h48 : n 264 48 = 0) (e : X11_operand N 264 n = some (v, n1)) (hv : v = 0 ∨ v = 1) (ok : n1 264 8 = 0) : Lr N (F + 1) n = Lr N F (up n1 264 48 v) := by
  show X11_reads_L35_b N (X11_reads_L35 N F) 264 1 n = _
  unfold X11_reads_L35_b
  rw [if_neg (by decide), g264 (by decide), Option.bind_some, h48, if_neg (fun u => u rfl), e, Option.bind_some, pz48 hv, Option.bind_some]
  unfold X11_reads_J62
  rw [if_neg (by decide), g264 (by decide), Option.bind_some, up_slot (by decide)]
  show (if ¬n1 264 8 = 0 then X11_reads_J77 N (X11_reads_L35 N F) 264 (up n1 264 48 v) else X11_reads_J78 N (X11_reads_L35 N F) 264 1 (up n1 264 48 v)) = _
  rw [ok, if_neg (fun u => u rfl)]
  rfl
theorem l_opF {N F : Nat} {n n1 : Mem} {v : Int} (h48 : n 264 48 = 0) (e : X11_operand N 264 n = some (v, n1)) (hv : v = 0 ∨ v = 1) (ng : FS n1) : Lr N (F + 2) n = some (up n1 264 48 v) := by
  show X11_reads_L35_b N (X11_reads_L35 N (F + 1)) 264 1 n = _
  unfold X11_reads_L35_b
  rw [if_neg (by decide), g264 (by decide), Option.bind_some, h48, if_neg (fun u => u rfl), e, Option.bind_some, pz48 hv, Option.bind_some]
  unfold X11_reads_J62
  rw [if_neg (by decide), g264 (by decide), Option.bind_some, up_slot (by decide)]
  show (if ¬n1 264 8 = 0 then X11_reads_J77 N (X11_reads_L35 N (F + 1)) 264 (up n1 264 48 v) else X11_reads_J78 N (X11_reads_L35 N (F + 1)) 264 1 (up n1 264 48 v)) = _
  rw [if_pos (by unfold FS at ng; omega)]
  exact l_stop (N := N) (F := F) _
theorem l_go {N F : Nat} {n n1 : Mem} (h48 : n 264 48 = 1) (e : X11_goesOn N 264 n = some (1, n1)) (ok : n1 264 8 = 0) : Lr N (F + 1) n = Lr N F n1 := by
  show X11_reads_L35_b N (X11_reads_L35 N F) 264 1 n = _
  unfold X11_reads_L35_b
  rw [if_neg (by decide), g264 (by decide), Option.bind_some, h48, if_pos (by decide), e, Option.bind_some]
  unfold X11_reads_J62
  rw [if_neg (show ¬((1 : Int), n1).1 = 0 from by show ¬(1 : Int) = 0; decide), g264 (by decide), Option.bind_some]
  show (if ¬n1 264 8 = 0 then X11_reads_J77 N (X11_reads_L35 N F) 264 n1 else X11_reads_J78 N (X11_reads_L35 N F) 264 1 n1) = _
  rw [ok, if_neg (fun u => u rfl)]
  rfl
theorem l_go0 {N F : Nat} {n n1 : Mem} (h48 : n 264 48 = 1) (e : X11_goesOn N 264 n = some (0, n1)) : Lr N (F + 2) n = some n1 := by
  show X11_reads_L35_b N (X11_reads_L35 N (F + 1)) 264 1 n = _
  unfold X11_reads_L35_b
  rw [if_neg (by decide), g264 (by decide), Option.bind_some, h48, if_pos (by decide), e, Option.bind_some]
  unfold X11_reads_J62
  rw [if_pos rfl]
  exact l_stop (N := N) (F := F) n1
