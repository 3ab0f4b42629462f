/-! letter -/
theorem lb_ge {x : Int} : lcm x 0 ≤ 0 ↔ x ≤ 0 := by
  unfold lcm
  by_cases q : x < 0
  · rw [if_pos q]; omega
  · rw [if_neg q]
    by_cases y : x = 0
    · rw [if_pos y]; omega
    · rw [if_neg y]; omega
/-- the letters of a name, by fives: which one -/
theorem pk5_at (L : List Nat) (h1 : 1 ≤ L.length) (h6 : L.length ≤ 6) (hb : ∀ c ∈ L, 1 ≤ c ∧ c ≤ 26) (k : Nat) (hk : k < 6) : ((pk5 L : Nat) : Int) / 2 ^ (5 * (5 - k)) % 32 = ((L.getD k 0 : Nat) : Int) ∧ ((pk5 L : Nat) : Int) < 1073741824 := by
  have ck : k = 0 ∨ k = 1 ∨ k = 2 ∨ k = 3 ∨ k = 4 ∨ k = 5 := by omega
  match L, h1, h6, hb with
  | [a], _, _, hb =>
    have ha := hb a (by simp)
    have e : pk5 [a] = (((((0 * 32 + a) * 32 + 0) * 32 + 0) * 32 + 0) * 32 + 0) * 32 + 0 := rfl
    rw [e]
    rcases ck with c | c | c | c | c | c <;> subst c <;> simp only [List.getD_cons_zero, List.getD_cons_succ, List.getD_nil] <;> omega
  | [a, b], _, _, hb =>
    have ha := hb a (by simp)
    have hb2 := hb b (by simp)
    have e : pk5 [a, b] = (((((0 * 32 + a) * 32 + b) * 32 + 0) * 32 + 0) * 32 + 0) * 32 + 0 := rfl
    rw [e]
    rcases ck with c | c | c | c | c | c <;> subst c <;> simp only [List.getD_cons_zero, List.getD_cons_succ, List.getD_nil] <;> omega
  | [a, b, d], _, _, hb =>
    have ha := hb a (by simp)
    have hb2 := hb b (by simp)
    have hd := hb d (by simp)
    have e : pk5 [a, b, d] = (((((0 * 32 + a) * 32 + b) * 32 + d) * 32 + 0) * 32 + 0) * 32 + 0 := rfl
    rw [e]
    rcases ck with c | c | c | c | c | c <;> subst c <;> simp only [List.getD_cons_zero, List.getD_cons_succ, List.getD_nil] <;> omega
  | [a, b, d, f], _, _, hb =>
    have ha := hb a (by simp)
    have hb2 := hb b (by simp)
    have hd := hb d (by simp)
    have hf := hb f (by simp)
    have e : pk5 [a, b, d, f] = (((((0 * 32 + a) * 32 + b) * 32 + d) * 32 + f) * 32 + 0) * 32 + 0 := rfl
    rw [e]
    rcases ck with c | c | c | c | c | c <;> subst c <;> simp only [List.getD_cons_zero, List.getD_cons_succ, List.getD_nil] <;> omega
  | [a, b, d, f, g], _, _, hb =>
    have ha := hb a (by simp)
    have hb2 := hb b (by simp)
    have hd := hb d (by simp)
    have hf := hb f (by simp)
    have hg := hb g (by simp)
    have e : pk5 [a, b, d, f, g] = (((((0 * 32 + a) * 32 + b) * 32 + d) * 32 + f) * 32 + g) * 32 + 0 := rfl
    rw [e]
    rcases ck with c | c | c | c | c | c <;> subst c <;> simp only [List.getD_cons_zero, List.getD_cons_succ, List.getD_nil] <;> omega
  | [a, b, d, f, g, i], _, _, hb =>
    have ha := hb a (by simp)
    have hb2 := hb b (by simp)
    have hd := hb d (by simp)
    have hf := hb f (by simp)
    have hg := hb g (by simp)
    have hi := hb i (by simp)
    have e : pk5 [a, b, d, f, g, i] = (((((0 * 32 + a) * 32 + b) * 32 + d) * 32 + f) * 32 + g) * 32 + i := rfl
    rw [e]
    rcases ck with c | c | c | c | c | c <;> subst c <;> simp only [List.getD_cons_zero, List.getD_cons_succ, List.getD_nil] <;> omega
/-- by eights: how long it is, and which letter -/
theorem pk8_snoc (L : List Nat) (c : Nat) : pk8 (L ++ [c]) = pk8 L * 256 + (c + 96) := by
  unfold pk8
  rw [List.foldl_append]
  rfl
theorem pk8_at : ∀ (L : List Nat) (_ : ∀ c ∈ L, 1 ≤ c ∧ c ≤ 26) (k : Nat), k < L.length → pk8 L / 256 ^ (L.length - 1 - k) % 256 = L.getD k 0 + 96 := by
  intro L
  induction hn : L.length generalizing L with
  | zero => intro _ k hk; omega
  | succ n ih =>
    intro hb k hk
    obtain ⟨M, c, rfl⟩ : ∃ M c, L = M ++ [c] := by
      refine ⟨L.dropLast, L.getLast (by intro e; rw [e] at hn; simp at hn), ?_⟩
      exact (List.dropLast_concat_getLast _).symm
    have hM : M.length = n := by simpa using hn
    have hc := hb c (by simp)
    rw [pk8_snoc]
    by_cases e : k = n
    · subst e
      rw [show k + 1 - 1 - k = 0 from by omega, Nat.pow_zero, Nat.div_one]
      have g : (M ++ [c]).getD k 0 = c := by
        rw [List.getD_eq_getElem?_getD, List.getElem?_append_right (by omega), hM, Nat.sub_self]
        rfl
      rw [g]
      omega
    · have i := ih M hM (fun x hx => hb x (by simp [hx])) k (by omega)
      have g : (M ++ [c]).getD k 0 = M.getD k 0 := by
        rw [List.getD_eq_getElem?_getD, List.getD_eq_getElem?_getD, List.getElem?_append_left (by omega)]
      rw [g, ← i, show n + 1 - 1 - k = (n - 1 - k) + 1 from by omega, Nat.pow_succ, Nat.mul_comm (256 ^ (n - 1 - k)) 256, ← Nat.div_div_eq_div_mul, show (pk8 M * 256 + (c + 96)) / 256 = pk8 M from by omega]
theorem pk8_len : ∀ (L : List Nat) (_ : ∀ c ∈ L, 1 ≤ c ∧ c ≤ 26), (∀ j, j < L.length → 0 < pk8 L / 256 ^ j) ∧ pk8 L / 256 ^ L.length = 0 := by
  intro L
  induction hn : L.length generalizing L with
  | zero =>
    intro _
    have e : L = [] := List.length_eq_zero_iff.mp hn
    subst e
    exact ⟨fun j hj => by omega, by decide⟩
  | succ n ih =>
    intro hb
    obtain ⟨M, c, rfl⟩ : ∃ M c, L = M ++ [c] := by
      refine ⟨L.dropLast, L.getLast (by intro e; rw [e] at hn; simp at hn), ?_⟩
      exact (List.dropLast_concat_getLast _).symm
    have hM : M.length = n := by simpa using hn
    have hc := hb c (by simp)
    obtain ⟨i1, i2⟩ := ih M hM (fun x hx => hb x (by simp [hx]))
    have sh : ∀ j, (pk8 M * 256 + (c + 96)) / 256 ^ (j + 1) = pk8 M / 256 ^ j := fun j => by
      rw [Nat.pow_succ, Nat.mul_comm (256 ^ j) 256, ← Nat.div_div_eq_div_mul, show (pk8 M * 256 + (c + 96)) / 256 = pk8 M from by omega]
    rw [pk8_snoc]
    refine ⟨fun j hj => ?_, by rw [sh]; exact i2⟩
    cases j with
    | zero => rw [Nat.pow_zero, Nat.div_one]; omega
    | succ j => rw [sh]; exact i1 j (by omega)
theorem pk8_lt (L : List Nat) (hb : ∀ c ∈ L, 1 ≤ c ∧ c ≤ 26) (h6 : L.length ≤ 6) : pk8 L < 281474976710656 := by
  have y := (pk8_len L hb).2
  rcases Nat.lt_or_ge (pk8 L) 281474976710656 with q | q
  · exact q
  · exfalso
    have p : 256 ^ L.length ≤ 256 ^ 6 := Nat.pow_le_pow_right (by decide) h6
    have e : (256 : Nat) ^ 6 = 281474976710656 := by decide
    have pos : 0 < 256 ^ L.length := Nat.pow_pos (by decide)
    have := (Nat.div_eq_zero_iff.mp y)
    omega
theorem land_255 {x : Int} (h0 : 0 ≤ x) (h1 : x < 9223372036854775808) : land x 255 = x % 256 := by
  obtain ⟨n, rfl⟩ : ∃ n : Nat, x = (n : Int) := ⟨x.toNat, (Int.toNat_of_nonneg h0).symm⟩
  have e : land (n : Int) 255 = (BitVec.ofInt 64 (n : Int) &&& BitVec.ofInt 64 255).toInt := rfl
  have n1 : (BitVec.ofInt 64 (n : Int)).toNat = n := by rw [BitVec.toNat_ofInt]; omega
  have n2 : (BitVec.ofInt 64 255).toNat = 2 ^ 8 - 1 := by decide
  have n3 : (BitVec.ofInt 64 (n : Int) &&& BitVec.ofInt 64 255).toNat = n % 256 := by
    rw [BitVec.toNat_and, n1, n2, Nat.and_two_pow_sub_one_eq_mod]
  rw [e, BitVec.toInt_eq_toNat_of_lt (by rw [n3]; omega), n3]
  omega
theorem lshr_8 (x : Int) (j : Nat) (hj : j ≤ 7) : lshr x (8 * (j : Int)) = x / (256 ^ j : Nat) := by
  unfold lshr sL
  have e : ((8 * (j : Int)) % 64).toNat = 8 * j := by omega
  rw [e]
  have c : j = 0 ∨ j = 1 ∨ j = 2 ∨ j = 3 ∨ j = 4 ∨ j = 5 ∨ j = 6 ∨ j = 7 := by omega
  rcases c with c | c | c | c | c | c | c | c <;> subst c <;> rfl
theorem lshr_1 (x : Int) : lshr x 8 = x / 256 := rfl
/-- the reference's letter of a name -/
theorem m_letJ {N : Nat} (hN : 2000 ≤ N) {m : Mem} (L : List Nat) (h1 : 1 ≤ L.length) (h6 : L.length ≤ 6) (hb : ∀ c ∈ L, 1 ≤ c ∧ c ≤ 26) {k : Nat} (hk : k < 6) : X11_letter_J88 N (k : Int) ((pk8 L : Nat) : Int) m = some ((L.getD k 0 : Nat) : Int) := by
  obtain ⟨l1, l2⟩ := pk8_len L hb
  have lt := pk8_lt L hb h6
  have key : ∀ F, L.length + 1 ≤ F → X11_letter_L97 N (fun (z10 z11 z12 : Int) => if z10 < z12 then some (wI ((wI ((wI (land (lshr z11 (wI (8 * (wI ((wI (z12 - 1)) - z10))))) 255)) - 97)) + 1)) else some 0) m F (k : Int) ((pk8 L : Nat) : Int) 0 ((pk8 L / 256 ^ 0 : Nat) : Int) = some ((L.getD k 0 : Nat) : Int) := by
    refine lp_2 (fun j => ((pk8 L / 256 ^ j : Nat) : Int)) Tr (fun F x i => X11_letter_L97 N (fun (z10 z11 z12 : Int) => if z10 < z12 then some (wI ((wI ((wI (land (lshr z11 (wI (8 * (wI ((wI (z12 - 1)) - z10))))) 255)) - 97)) + 1)) else some 0) m F (k : Int) ((pk8 L : Nat) : Int) i x) L.length _ (tr 0) (fun F j hj _ ih => ?_) (fun F _ => ?_)
    · refine wp_eq ?_
      show Wp (X11_letter_L97_b N _ m (X11_letter_L97 N _ m F) (k : Int) ((pk8 L : Nat) : Int) (j : Int) ((pk8 L / 256 ^ j : Nat) : Int)) _
      unfold X11_letter_L97_b
      have p := l1 j hj
      rw [if_neg (fun u => by have := lb_ge.mp u; omega), lshr_1]
      refine wp_of (ih _ _ ?_ (by first | omega | (simp (disch := omega) only [wI_of2] <;> omega)) (tr _)) rfl
      rw [Nat.pow_succ, ← Nat.div_div_eq_div_mul]
      omega
    · refine wp_eq ?_
      show Wp (X11_letter_L97_b N _ m (X11_letter_L97 N _ m F) (k : Int) ((pk8 L : Nat) : Int) (L.length : Int) ((pk8 L / 256 ^ L.length : Nat) : Int)) _
      unfold X11_letter_L97_b
      rw [l2, if_pos (lb_ge.mpr (by decide))]
      show Wp (if (k : Int) < (L.length : Int) then some (wI ((wI ((wI (land (lshr ((pk8 L : Nat) : Int) (wI (8 * (wI ((wI ((L.length : Int) - 1)) - (k : Int)))))) 255)) - 97)) + 1)) else some 0) _
      by_cases q : k < L.length
      · have at' := pk8_at L hb k q
        have lc : L.getD k 0 ≤ 26 ∧ 1 ≤ L.getD k 0 := by
          rw [List.getD_eq_getElem?_getD, List.getElem?_eq_getElem q]
          have := hb L[k] (List.getElem_mem _)
          exact ⟨this.2, this.1⟩
        rw [if_pos (by omega), wI_of2 (x := (L.length : Int) - 1) (by omega) (by omega), wI_of2 (x := (L.length : Int) - 1 - (k : Int)) (by omega) (by omega), wI_of2 (x := 8 * ((L.length : Int) - 1 - (k : Int))) (by omega) (by omega), show (L.length : Int) - 1 - (k : Int) = ((L.length - 1 - k : Nat) : Int) from by omega, lshr_8 _ _ (by omega)]
        have dv : ((pk8 L : Nat) : Int) / ((256 ^ (L.length - 1 - k) : Nat) : Int) = ((pk8 L / 256 ^ (L.length - 1 - k) : Nat) : Int) := by omega
        have dl : pk8 L / 256 ^ (L.length - 1 - k) ≤ pk8 L := Nat.div_le_self _ _
        rw [dv]
        generalize pk8 L / 256 ^ (L.length - 1 - k) = q9 at at' dl ⊢
        rw [land_255 (x := (q9 : Int)) (by omega) (by omega), show (q9 : Int) % 256 = ((L.getD k 0 + 96 : Nat) : Int) from by omega, wI_of2 (x := ((L.getD k 0 + 96 : Nat) : Int)) (by omega) (by omega), wI_of2 (x := ((L.getD k 0 + 96 : Nat) : Int) - 97) (by omega) (by omega), wI_of2 (x := ((L.getD k 0 + 96 : Nat) : Int) - 97 + 1) (by omega) (by omega)]
        exact wp_some (by omega)
      · rw [if_neg (by omega)]
        refine wp_some ?_
        rw [List.getD_eq_getElem?_getD, List.getElem?_eq_none (by omega)]
        rfl
  have h := key N (by omega)
  rw [Nat.pow_zero, Nat.div_one] at h
  unfold X11_letter_J88
  exact h
theorem x_letJ {m : Mem} (L : List Nat) (h1 : 1 ≤ L.length) (h6 : L.length ≤ 6) (hb : ∀ c ∈ L, 1 ≤ c ∧ c ≤ 26) {k : Nat} (hk : k < 6) : X8_letterOf ((pk5 L : Nat) : Int) (k : Int) m = some ((L.getD k 0 : Nat) : Int) := by
  obtain ⟨a, b⟩ := pk5_at L h1 h6 hb k hk
  unfold X8_letterOf
  rw [if_neg (by omega), if_neg (by omega), wI_of2 (x := 5 - (k : Int)) (by omega) (by omega), wI_of2 (x := 5 * (5 - (k : Int))) (by omega) (by omega)]
  have e : iand (ishr ((pk5 L : Nat) : Int) (5 * (5 - (k : Int)))) 31 = ishr ((pk5 L : Nat) : Int) (5 * (5 - (k : Int))) % 32 := iand_low _ 5 (by decide)
  rw [e]
  have e2 : ishr ((pk5 L : Nat) : Int) (5 * (5 - (k : Int))) = ((pk5 L : Nat) : Int) / 2 ^ (5 * (5 - k)) := by
    unfold ishr sI
    rw [show ((5 * (5 - (k : Int))) % 32).toNat = 5 * (5 - k) from by omega]
  rw [e2, a]
theorem letter_ok {N : Nat} (hN : 2000 ≤ N) {m : Mem} (h : Inv m) (x y k : Int) : ∃ v, X10_letter 3 x y k m = some v ∧ X11_letter N 264 x y k m = some v := by
  obtain ⟨P, b, I, l, s, h⟩ := h
  obtain ⟨r, ⟨b3, bb, b4, ps, md, mn⟩, ⟨z, n, kc, vl, cl, fx, cm⟩, ⟨hl, my, gl⟩, pa, to, zz, hg, wk, se, rd, te, fe, oe, kst⟩ := id h; have h1 := ps.1; have tc := gl.1; have hs := vl.2.2.2.2
  obtain ⟨n1, n2, n3, n4, n5, n6⟩ := id n
  have bb2 := md.1.1
  obtain ⟨mn1, mn2, mn3⟩ := mn
  by_cases qk : 0 ≤ k ∧ k ≤ 5
  · obtain ⟨kn, rfl⟩ : ∃ d : Nat, k = (d : Int) := ⟨k.toNat, (Int.toNat_of_nonneg qk.1).symm⟩
    by_cases q0 : x = 0 ∧ 0 ≤ y ∧ y < I 6 0
    · obtain ⟨e0, y0, y1⟩ := q0
      subst e0
      have ey : ((y.toNat : Nat) : Int) = y := Int.toNat_of_nonneg y0
      obtain ⟨L, l1, l2, l3, l4, l5⟩ := mn2 y.toNat (by omega)
      rw [ey] at l4
      refine ⟨((L.getD kn 0 : Nat) : Int), ?_, ?_⟩ <;> refine wp_eq ?_
      · unfold X10_letter
        refine wp_k k3 ?_
        rw [if_neg (by omega), if_pos (by omega), if_neg (fun u => u rfl)]
        refine wp_b (b3_R b3) ?_
        refine wp_b (x_isCistern h1 y) ?_
        rw [← bi_t ⟨y0, y1⟩, if_neg (by decide)]
        refine wp_b (b3_R b3) ?_
        refine wp_b (pd_R r h1 (by decide)) ?_
        refine wp_b (pd_r8 h1 y0 (by omega)) ?_
        rw [l4]
        refine wp_b (x_letJ L l1 l2 l3 (by omega)) ?_
        exact wp_some rfl
      · unfold X11_letter
        refine wp_k k264 ?_
        refine wp_b (m_is _ _ _ _) ?_
        rw [← bi_t (show (0 : Int) ≤ 0 ∧ (0 : Int) ≤ 1 from by decide), if_neg (by decide), if_neg (fun u => u rfl)]
        refine wp_b (gR21 r) ?_
        refine wp_b (md_bank md) ?_
        refine wp_b (md_s21 md) ?_
        unfold X11_letter_J31
        rw [wI_of2 (x := I 6 0 - 1) (by omega) (by omega)]
        refine wp_b (m_is _ _ _ _) ?_
        rw [← bi_t (show 0 ≤ y ∧ y ≤ I 6 0 - 1 from by omega), if_neg (by decide)]
        refine wp_b (m_is _ _ _ _) ?_
        rw [← bi_t (show 0 ≤ (kn : Int) ∧ (kn : Int) ≤ 5 from qk), if_pos (by decide), if_neg (fun u => u rfl)]
        refine wp_b (gR37 r) ?_
        refine wp_b (md_bank md) ?_
        rw [wI_of2 (x := 5 * (b : Int)) (by omega) (by omega), wI_of2 (x := 5 * (b : Int) + y) (by omega) (by omega)]
        refine wp_b (arL 10 (by decide +kernel) (by omega) (by omega) m) ?_
        rw [show (5 * (b : Int) + y).toNat = 5 * b + y.toNat from by omega, l5]
        exact wp_of (m_letJ hN L l1 l2 l3 (by omega)) rfl
    · by_cases q1 : x = 1 ∧ 0 ≤ y ∧ y < I 12 0
      · obtain ⟨e1, y0, y1⟩ := q1
        subst e1
        obtain ⟨t, ht, hs2, hk2, hv⟩ := cl_ok n cl y0 y1
        obtain ⟨L, l1, l2, l3, l4, l5⟩ := mn3 t ht hs2
        rw [hk2] at l4
        refine ⟨((L.getD kn 0 : Nat) : Int), ?_, ?_⟩ <;> refine wp_eq ?_
        · unfold X10_letter
          refine wp_k k3 ?_
          rw [if_neg (by omega), if_pos (by omega), if_pos (by decide)]
          unfold X10_letter_J41
          rw [if_neg (fun u => u rfl)]
          refine wp_b (b3_R b3) ?_
          refine wp_b (x_isCloth h1 y) ?_
          rw [← bi_t ⟨y0, y1⟩, if_neg (by decide)]
          refine wp_b (b3_R b3) ?_
          refine wp_b (pd_R r h1 (by decide)) ?_
          refine wp_b (pd_r14 h1 y0 (by omega)) ?_
          rw [l4]
          refine wp_b (x_letJ L l1 l2 l3 (by omega)) ?_
          exact wp_some rfl
        · unfold X11_letter
          refine wp_k k264 ?_
          refine wp_b (m_is _ _ _ _) ?_
          rw [← bi_t (show (0 : Int) ≤ 1 ∧ (1 : Int) ≤ 1 from by decide), if_neg (by decide), if_pos (by decide)]
          refine wp_b (m_cloths hN r md n cl) ?_
          unfold X11_letter_J31
          rw [wI_of2 (x := I 12 0 - 1) (by omega) (by omega)]
          refine wp_b (m_is _ _ _ _) ?_
          rw [← bi_t (show 0 ≤ y ∧ y ≤ I 12 0 - 1 from by omega), if_neg (by decide)]
          refine wp_b (m_is _ _ _ _) ?_
          rw [← bi_t (show 0 ≤ (kn : Int) ∧ (kn : Int) ≤ 5 from qk), if_pos (by decide), if_pos (by decide)]
          refine wp_b (gR38 r) ?_
          refine wp_b (md_bank md) ?_
          refine wp_b (m_cloth hN r md n cl y0 y1) ?_
          rw [hv, wI_of2 (x := 10 * (b : Int)) (by omega) (by omega), wI_of2 (x := 10 * (b : Int) + (t : Int)) (by omega) (by omega)]
          refine wp_b (arL 20 (by decide +kernel) (by omega) (by omega) m) ?_
          rw [show (10 * (b : Int) + (t : Int)).toNat = 10 * b + t from by omega, l5]
          exact wp_of (m_letJ hN L l1 l2 l3 (by omega)) rfl
      · refine ⟨-1, ?_, ?_⟩ <;> refine wp_eq ?_
        · have tail : Wp (X10_letter_J41 3 x y (kn : Int) m) (fun r => r = -1) := by
            unfold X10_letter_J41
            by_cases u : x = 1
            · rw [if_neg (fun v => v u)]
              refine wp_b (b3_R b3) ?_
              refine wp_b (x_isCloth h1 y) ?_
              rw [← bi_f (fun v => q1 ⟨u, v⟩), if_pos rfl]
              exact wp_some rfl
            · rw [if_pos u]
              exact wp_some rfl
          unfold X10_letter
          refine wp_k k3 ?_
          rw [if_neg (by omega), if_pos (by omega)]
          by_cases u : x = 0
          · rw [if_neg (fun v => v u)]
            refine wp_b (b3_R b3) ?_
            refine wp_b (x_isCistern h1 y) ?_
            rw [← bi_f (fun v => q0 ⟨u, v⟩), if_pos rfl]
            exact tail
          · rw [if_pos u]; exact tail
        · unfold X11_letter
          refine wp_k k264 ?_
          refine wp_b (m_is _ _ _ _) ?_
          by_cases w : 0 ≤ x ∧ x ≤ 1
          · rw [← bi_t w, if_neg (by decide)]
            by_cases u : x = 0
            · rw [if_neg (fun v => v u)]
              refine wp_b (gR21 r) ?_
              refine wp_b (md_bank md) ?_
              refine wp_b (md_s21 md) ?_
              unfold X11_letter_J31
              rw [wI_of2 (x := I 6 0 - 1) (by omega) (by omega)]
              refine wp_b (m_is _ _ _ _) ?_
              rw [← bi_f (show ¬(0 ≤ y ∧ y ≤ I 6 0 - 1) from fun v => q0 ⟨u, by omega⟩), if_pos rfl]
              exact wp_some rfl
            · rw [if_pos u]
              refine wp_b (m_cloths hN r md n cl) ?_
              unfold X11_letter_J31
              rw [wI_of2 (x := I 12 0 - 1) (by omega) (by omega)]
              refine wp_b (m_is _ _ _ _) ?_
              rw [← bi_f (show ¬(0 ≤ y ∧ y ≤ I 12 0 - 1) from fun v => q1 ⟨by omega, by omega⟩), if_pos rfl]
              exact wp_some rfl
          · rw [← bi_f w, if_pos rfl]
            exact wp_some rfl
  · refine ⟨-1, ?_, ?_⟩ <;> refine wp_eq ?_
    · unfold X10_letter
      refine wp_k k3 ?_
      by_cases u : k < 0
      · rw [if_pos u]; exact wp_some rfl
      · rw [if_neg u, if_neg (by omega)]; exact wp_some rfl
    · have J : ∀ s2 : Int, Wp (X11_letter_J31 N 264 x y k y 0 s2 m) (fun r => r = -1) := fun s2 => by
        unfold X11_letter_J31
        refine wp_b (m_is _ _ _ _) ?_
        have bi2 := bi_in (0 ≤ y ∧ y ≤ wI (s2 - 1))
        rcases bi2 with u | u
        · rw [u, if_pos rfl]; exact wp_some rfl
        · rw [u, if_neg (by decide)]
          refine wp_b (m_is _ _ _ _) ?_
          rw [← bi_f qk, if_neg (by decide)]
          exact wp_some rfl
      unfold X11_letter
      refine wp_k k264 ?_
      refine wp_b (m_is _ _ _ _) ?_
      by_cases w : 0 ≤ x ∧ x ≤ 1
      · rw [← bi_t w, if_neg (by decide)]
        by_cases u : x = 0
        · rw [if_neg (fun v => v u)]
          refine wp_b (gR21 r) ?_
          refine wp_b (md_bank md) ?_
          refine wp_b (md_s21 md) ?_
          exact J _
        · rw [if_pos u]
          refine wp_b (m_cloths hN r md n cl) ?_
          exact J _
      · rw [← bi_f w, if_pos rfl]
        exact wp_some rfl
