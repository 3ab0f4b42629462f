/-! a part is read by both -/
variable {T : Nat → Int} {len K D B S So p p2 ko f0 : Nat} {co : Int → Int} {s : Int} {m0 n0 : Mem} {I : Isl} {l : Lnd}
theorem jf_48 {m n : Mem} (h : JF D B m0 n0 m n) (v : Int) : JF D B m0 n0 m (up n 264 48 v) := by
  obtain ⟨⟨f, p', hf, h1, h2, h3, h4⟩, r, r2, cf, rf⟩ := h
  exact ⟨⟨f, p', hf, h1, h2, by rw [up_slot (by decide)]; exact h3, by rw [up_slot (by decide)]; exact h4⟩, r, refs_up r2 (by decide +kernel) _, cf, rf_264 rf (by unfold mayR; omega) _⟩
/-- a fault; a part; a sum with what is held back -/
def Fau (D B : Nat) (m0 n0 : Mem) (N F : Nat) (n : Mem) (r : Int × Mem) : Prop := r.1 = 0 ∧ ∃ n2, Lr N F n = some n2 ∧ JF D B m0 n0 r.2 n2
def Suc (T : Nat → Int) (len K D B S So p p2 : Nat) (co : Int → Int) (ko f0 : Nat) (s : Int) (m0 n0 : Mem) (I : Isl) (l : Lnd) (N F : Nat) (n : Mem) (a e o q : Nat) (d : Int) (r : Int × Mem) : Prop := r.1 = 1 ∧ ∃ (n2 : Mem) (F2 a2 k2 : Nat), Lr N F n = Lr N F2 n2 ∧ a < a2 ∧ len + 2 ≤ F2 + a2 ∧ MS T len K D B S So p p2 co ko f0 s m0 n0 I l r.2 n2 a2 k2 k2 e ∧ SSt n2 o q ∧ n2 264 48 = 1 ∧ dpt (cM r.2 S f0) k2 = d ∧ KpF n n2 o q
def Hdd (T : Nat → Int) (len K D B S So p p2 : Nat) (co : Int → Int) (ko f0 : Nat) (s : Int) (m0 n0 : Mem) (I : Isl) (l : Lnd) (N F : Nat) (n : Mem) (a e o q c : Nat) (d : Int) (ops : Int → Prop) (r : Int × Mem) : Prop := r.1 = 1 ∧ ∃ (n2 : Mem) (F2 a2 k2 R2 q2 : Nat), Lr N F n = Lr N F2 n2 ∧ a < a2 ∧ len + 2 ≤ F2 + a2 ∧ MS T len K D B S So p p2 co ko f0 s m0 n0 I l r.2 n2 a2 k2 R2 e ∧ SSt n2 o q2 ∧ PenG r.2 n2 S f0 q q2 R2 ∧ R2 + (q2 - q) = k2 ∧ q2 ≤ q + c ∧ n2 264 48 = 1 ∧ dpt (cM r.2 S f0) k2 = d ∧ KpF n n2 o q ∧ (∀ x, ops x → ¬isS T len a2 x) ∧ (c = 1 → ∀ i, q ≤ i → i < q2 → ¬(n2 294 i = 10 ∨ n2 294 i = 11))
def SumOk (T : Nat → Int) (len K D B S So p p2 : Nat) (co : Int → Int) (ko f0 : Nat) (s : Int) (m0 n0 : Mem) (I : Isl) (l : Lnd) (N : Nat) (self : Nat → Nat → Int → Mem → Option (Int × Mem)) (o : Nat) : Prop := ∀ (F : Nat) (m n : Mem) (a k e q : Nat), MS T len K D B S So p p2 co ko f0 s m0 n0 I l m n a k k (e + 1) → SSt n o q → q ≤ 2 * o → n 264 48 = 0 → n 293 o = (q : Int) → dpt (cM m S f0) k ≤ 3 * o → len + 2 ≤ F + a → Wp (self 5 S (o : Int) m) (fun r => Fau D B m0 n0 N F n r ∨ Hdd T len K D B S So p p2 co ko f0 s m0 n0 I l N F n a (e + 1) o q 2 (dpt (cM m S f0) k + 1) isOpS r)
theorem fau_tr {N F F2 : Nat} {n n2 : Mem} {r : Int × Mem} (e : Lr N F n = Lr N F2 n2) (h : Fau D B m0 n0 N F2 n2 r) : Fau D B m0 n0 N F n r := ⟨h.1, by
  obtain ⟨n3, e3, j⟩ := h.2
  exact ⟨n3, by rw [e]; exact e3, j⟩⟩
theorem ms_F {m n : Mem} {a k R e F : Nat} (h : MS T len K D B S So p p2 co ko f0 s m0 n0 I l m n a k R e) (hF : len + 2 ≤ F + a) : ∃ f, F = f + 2 := ⟨F - 2, by have := (ms_B h).2.2.2.2.2.1; omega⟩
/-- what the reference tells at a part -/
theorem fau_op {N F : Nat} {m n m2 n2 : Mem} {a k R e : Nat} {v f p' : Int} (h : MS T len K D B S So p p2 co ko f0 s m0 n0 I l m n a k R e) (hF : len + 2 ≤ F + a) (e48 : n 264 48 = 0) (eo : X11_operand N 264 n = some (v, n2)) (hv : v = 0 ∨ v = 1) (hf : 0 < f) (t : Told m m2 f p') (g : FtM n n2 f p') : Fau D B m0 n0 N F n (0, m2) := by
  obtain ⟨F, rfl⟩ := ms_F h hF
  have j := ms_no h hf t g
  exact ⟨rfl, _, l_opF e48 eo hv (fl_fs j.1), jf_48 j v⟩
theorem fau_go {N F : Nat} {m n m2 n2 : Mem} {a k R e : Nat} {f p' : Int} (h : MS T len K D B S So p p2 co ko f0 s m0 n0 I l m n a k R e) (hF : len + 2 ≤ F + a) (e48 : n 264 48 = 1) (eo : X11_goesOn N 264 n = some (0, n2)) (hf : 0 < f) (t : Told m m2 f p') (g : FtM n n2 f p') : Fau D B m0 n0 N F n (0, m2) := by
  obtain ⟨F, rfl⟩ := ms_F h hF
  exact ⟨rfl, _, l_go0 e48 eo, ms_no h hf t g⟩
/-- a number or a fact -/
theorem b_atom {N F : Nat} (hN : 2000 ≤ N) {m n : Mem} {a k e o q : Nat} (h : MS T len K D B S So p p2 co ko f0 s m0 n0 I l m n a k k (e + 1)) (lt : a < len) (st : SSt n o q) (e48 : n 264 48 = 0) (hF : len + 2 ≤ F + a) (hd : dpt (cM m S f0) k ≤ 62) (k0 : ¬(kdP T len a).1 = 0) (k6 : ¬(kdP T len a).1 = 6) (k10 : ¬kdP T len a = (2, 10)) (rl : rlx T len a = -1) {v : Int} (hv : (rsg T len a = 2 ∧ v = rvl T len a ∧ 0 ≤ v ∧ v ≤ 9999) ∨ (rsg T len a = 1 ∧ ¬rwd T len a = 7170414 ∧ ¬rwd T len a = 7168376 ∧ srt (rwd T len a) = cdS v ∧ ¬cdS v = -1 ∧ -10 ≤ v ∧ v < 0)) : ∃ m2 m3, X7_add S v m = some (1, m2) ∧ X6_goTo 5 (wI (m2 5 1 + 1)) m2 = some (1, m3) ∧ Suc T len K D B S So p p2 co ko f0 s m0 n0 I l N F n a (e + 1) o q (dpt (cM m S f0) k + 1) (1, m3) := by
  obtain ⟨hB, i40, i39, bd, _, al, hl⟩ := ms_B h
  obtain ⟨sS, s1, s2, s3, s4, s5, s6⟩ := sc_S h.1.2.2.1
  have hD : D = 11 ∨ D = 40 := h.1.2.2.1.1
  obtain ⟨m2, e2, a1, a2, a3, a4, r2⟩ := x_addC h.1.1 sS s5 h.2.2.1 (show f0 + k < 1600 from by omega) v
  obtain ⟨h2, d2⟩ := ms_addX (e := e) (v := v) h a1 a2 a3 a4 r2 (Or.inl ⟨by omega, by rcases hv with u | u <;> omega, hd⟩)
  have hs : (rsg T len a = 2 ∧ (cdS v) = 0) ∨ (rsg T len a = 1 ∧ ¬rwd T len a = 7170414 ∧ ¬rwd T len a = 7168376 ∧ srt (rwd T len a) = cdS v ∧ ¬cdS v = -1) := by
    rcases hv with ⟨u1, u2, u3, u4⟩ | ⟨u1, u2, u3, u4, u5, _⟩
    · refine Or.inl ⟨u1, ?_⟩
      unfold cdS
      repeat rw [if_neg (by omega)]
    · exact Or.inr ⟨u1, u2, u3, u4, u5⟩
  obtain ⟨n2, eo, f2, rs2, rn2⟩ := m_opAtom (B := B) hN h.1.2.1 h.2.1.2 lt hB i40 (x := f0 + k) i39 (by omega) rl hs
  have h3 : MS T len K D B S So p p2 co ko f0 s m0 n0 I l m2 (addM n B (f0 + k) (cdS v) (rvl T len a)) a (k + 1) (k + 1) e := ms_addR h2 (by omega) (by rw [a2]) (fun u => by rw [a2] at u ⊢; rcases hv with w | w; exact w.2.1.symm; omega) (by omega)
  obtain ⟨m3, e3, rp3, f3⟩ := p_next r2 h2.2.1.1 k0 k6 k10
  have nxl := nx_in (T := T) lt
  have h4 : MS T len K D B S So p p2 co ko f0 s m0 n0 I l m3 n2 (nx T len a) (k + 1) (k + 1) e := ms_mv (fun j h => by omega) h3 f3 f2 rp3 rs2 (by omega) rn2
  have h5 : MS T len K D B S So p p2 co ko f0 s m0 n0 I l m3 n2 (nx T len a) (k + 1) (k + 1) (e + 1) := ms_e h4 (by omega)
  obtain ⟨oA, oA2, _⟩ := addM_o n B (f0 + k) (cdS v) (rvl T len a)
  obtain ⟨n3, hn3⟩ : ∃ n3, n3 = up n2 264 48 1 := ⟨_, rfl⟩
  have r3 : Refs n3 := by rw [hn3]; exact refs_up rn2 (by decide +kernel) _
  have o3 : ∀ b, ¬b = 264 → n3 b = n2 b := fun b hb => by rw [hn3, up_ne hb]
  have o3j : ∀ j, ¬j = 48 → n3 264 j = n2 264 j := fun j hj => by rw [hn3, up_at, if_neg hj]
  obtain ⟨F, rfl⟩ := ms_F h hF
  refine ⟨m2, m3, e2, e3, rfl, n3, F + 1, nx T len a, k + 1, ?_, nxl.1, by omega, ms_st h5 r3 (fun b hb _ => o3 b hb) (fun j hj => o3j j (by omega)), ss_o st (fun j hj => by rw [o3j j (by omega), f2.2 j (by omega), oA2 j (by omega)]), by rw [hn3, up_same], ?_, kp_o (fun b b1 b2 => by rw [o3 b (by omega), f2.1 b (by omega), oA b (by omega) (by omega) (by omega)]) o q⟩
  · rw [hn3]
    exact l_op e48 eo (Or.inr rfl) rs2.2.1
  · have : cM m3 S f0 = cM m2 S f0 := by unfold cM; rw [f3.1 (S + 1) (by omega)]
    show dpt (cM m3 S f0) (k + 1) = _
    rw [this, d2, if_neg (by rcases hv with u | u <;> omega)]
/-- a bracket's end, for both -/
theorem b_tail {N F : Nat} (hN : 2000 ≤ N) {self : Nat → Nat → Int → Mem → Option (Int × Mem)} {m n : Mem} {a k R e o q q2 : Nat} (ho : o < 7) (hq : q2 ≤ 480) (h : MS T len K D B S So p p2 co ko f0 s m0 n0 I l m n a k R e) (hF : len + 2 ≤ F + a) (st : SSt n (o + 1) q2) (e93 : n 293 (o + 1) = (q : Int)) (e48 : n 264 48 = 1) (ns : ∀ c, isOpS c → ¬isS T len a c) (pn : PenG m n S f0 q q2 R) (hk : (n 291 (o + 1) = 2 ∧ R + (q2 - q) = k) ∨ (n 291 (o + 1) = 4 ∧ R + (q2 - q) + 1 = k ∧ n 292 (o + 1) = cdS (m (S + 1) (f0 + (k - 1))) ∧ m (S + 1) (f0 + (k - 1)) < 0)) : Wp (X6_part_J298 N self 5 1 m) (fun r => Fau D B m0 n0 N F n r ∨ Suc T len K D B S So p p2 co ko f0 s m0 n0 I l N F n a e o q (dpt (cM m S f0) k) r) := by
  obtain ⟨sS, s1, s2, s3, s4, s5, s6⟩ := sc_S h.1.2.2.1
  have hD : D = 11 ∨ D = 40 := h.1.2.2.1.1
  have al := (ms_B h).2.2.2.2.2.1
  have rs := h.2.1.2
  unfold X6_part_J298
  rw [if_neg (by decide)]
  refine wp_bw (p_sign h.1.1 h.2.1.1 41 (Q := fun r => (isS T len a 41 ∧ r.1 = 1 ∧ RP r.2 T len K (nx T len a) ∧ ReF J14 m r.2) ∨ (¬isS T len a 41 ∧ r.1 = 0 ∧ Told m r.2 1 (tkQ T len a))) (fun u m2 d f => Or.inl ⟨(sgn_same al 41).mp u, rfl, d, f⟩) (fun u m2 t => Or.inr ⟨fun v => u ((sgn_same al 41).mpr v), rfl, t⟩)) (fun v hv => ?_)
  rcases hv with ⟨sg, v1, rp2, f2⟩ | ⟨nsg, v0, t⟩
  · rw [v1, if_neg (by decide)]
    refine wp_b (v := 1) rfl ?_
    refine wp_some (Or.inr ?_)
    obtain ⟨n2, e2, g2, h2, st2, y2, kp2⟩ := b_close hN (by omega) hq h sg st e93 e48 pn hk f2 rp2
    obtain ⟨F, rfl⟩ := ms_F h hF
    have lt : a < len := rs_end rs (by have := sg.2.1; omega)
    have nxl := nx_in (T := T) lt
    refine ⟨rfl, n2, F + 1, nx T len a, k, l_go e48 e2 g2, nxl.1, by omega, h2, st2, y2, ?_, kp2⟩
    have : cM v.2 S f0 = cM m S f0 := by unfold cM; rw [f2.1 (S + 1) (by omega)]
    show dpt (cM v.2 S f0) k = _
    rw [this]
  · rw [v0, if_pos rfl]
    refine wp_b (v := 0) rfl ?_
    refine wp_some (Or.inl ?_)
    have eb := g_bad (N := N) h.1.2.1 rs st (by omega) ns (by rcases hk with u | u <;> omega) (fun u => by rcases hk with w | w <;> omega) (fun _ => nsg)
    exact fau_go h hF e48 eb (by decide) t ⟨n, ahf_refl n, rfl⟩
