/-! orders: the best of all, by sets and by lists -/
/-- the most of some numbers from 0 on -/
def hmx (h : Nat → Int) (ok : Nat → Bool) : Nat → Int
  | 0 => 0
  | c + 1 => if ok c = true then max (hmx h ok c) (h c) else hmx h ok c
/-- the first of them that is so much -/
def hfs (h : Nat → Int) (ok : Nat → Bool) (v : Int) : Nat → Nat
  | 0 => 0
  | c + 1 => if hfs h ok v c < c then hfs h ok v c else if ok c = true ∧ h c = v then c else c + 1
theorem hfs_le (h : Nat → Int) (ok : Nat → Bool) (v : Int) (c : Nat) : hfs h ok v c ≤ c := by
  induction c with
  | zero => exact Nat.le_refl 0
  | succ c ih =>
    show (if hfs h ok v c < c then hfs h ok v c else if ok c = true ∧ h c = v then c else c + 1) ≤ c + 1
    split
    · omega
    · split <;> omega
theorem hfs_at (h : Nat → Int) (ok : Nat → Bool) (v : Int) (c : Nat) (q : hfs h ok v c < c) : ok (hfs h ok v c) = true ∧ h (hfs h ok v c) = v := by
  induction c with
  | zero => omega
  | succ c ih =>
    have e : hfs h ok v (c + 1) = (if hfs h ok v c < c then hfs h ok v c else if ok c = true ∧ h c = v then c else c + 1) := rfl
    rw [e] at q ⊢
    by_cases y : hfs h ok v c < c
    · rw [if_pos y]; exact ih y
    · rw [if_neg y] at q ⊢
      by_cases y2 : ok c = true ∧ h c = v
      · rw [if_pos y2]; exact y2
      · rw [if_neg y2] at q; omega
theorem hfs_no (h : Nat → Int) (ok : Nat → Bool) (v : Int) (n : Nat) (q : ∀ c, c < n → ok c = true → ¬h c = v) : hfs h ok v n = n := by
  induction n with
  | zero => rfl
  | succ n ih =>
    have a := ih (fun c hc => q c (by omega))
    show (if hfs h ok v n < n then hfs h ok v n else if ok n = true ∧ h n = v then n else n + 1) = n + 1
    rw [if_neg (by omega), if_neg (fun u => q n (by omega) u.1 u.2)]
theorem hfs_s (h : Nat → Int) (ok : Nat → Bool) (v : Int) (c : Nat) : hfs h ok v (c + 1) = if hfs h ok v c < c then hfs h ok v c else if ok c = true ∧ h c = v then c else c + 1 := rfl
theorem hmx_s (h : Nat → Int) (ok : Nat → Bool) (c : Nat) : hmx h ok (c + 1) = if ok c = true then max (hmx h ok c) (h c) else hmx h ok c := rfl
theorem hmx_0 (h : Nat → Int) (ok : Nat → Bool) (c : Nat) : 0 ≤ hmx h ok c := by
  induction c with
  | zero => exact Int.le_refl 0
  | succ c ih =>
    rw [hmx_s]
    split <;> omega
theorem hmx_ge (h : Nat → Int) (ok : Nat → Bool) (n c : Nat) (hc : c < n) (o : ok c = true) : h c ≤ hmx h ok n := by
  induction n with
  | zero => omega
  | succ n ih =>
    rw [hmx_s]
    by_cases e : c = n
    · rw [← e, if_pos o]; omega
    · have a := ih (by omega)
      split <;> omega
/-- where there is one, the most is that of one -/
theorem hmx_fs (h : Nat → Int) (ok : Nat → Bool) (h0 : ∀ c, 0 ≤ h c) (n : Nat) (e : ∃ c, c < n ∧ ok c = true) : hfs h ok (hmx h ok n) n < n := by
  have key : ∀ n, (∃ c, c < n ∧ ok c = true) → ∃ c, c < n ∧ ok c = true ∧ h c = hmx h ok n := by
    intro n
    induction n with
    | zero => intro ⟨c, hc, _⟩; omega
    | succ n ih =>
      intro ⟨c, hc, o⟩
      rw [hmx_s]
      by_cases y : ∃ c, c < n ∧ ok c = true
      · obtain ⟨d, hd, od, ed⟩ := ih y
        by_cases z : ok n = true
        · rw [if_pos z]
          by_cases u : hmx h ok n < h n
          · exact ⟨n, by omega, z, by omega⟩
          · exact ⟨d, by omega, od, by omega⟩
        · rw [if_neg z]
          exact ⟨d, by omega, od, ed⟩
      · have cn : c = n := by
          rcases Nat.lt_or_ge c n with u | u
          · exact absurd ⟨c, u, o⟩ y
          · omega
        subst cn
        have z : hmx h ok c = 0 := by
          have w : ∀ j, j ≤ c → hmx h ok j = 0 := by
            intro j
            induction j with
            | zero => intro _; rfl
            | succ j ih2 =>
              intro hj
              rw [hmx_s, if_neg (fun u => y ⟨j, by omega, u⟩)]
              exact ih2 (by omega)
          exact w c (Nat.le_refl c)
        rw [if_pos o, z]
        have := h0 c
        exact ⟨c, by omega, o, by omega⟩
  obtain ⟨c, hc, o, ec⟩ := key n e
  rcases Nat.lt_or_ge (hfs h ok (hmx h ok n) n) n with q | q
  · exact q
  · exfalso
    have a : ∀ j, j ≤ n → hfs h ok (hmx h ok n) j < j ∨ hfs h ok (hmx h ok n) j = j ∧ ∀ d, d < j → ok d = true → ¬h d = hmx h ok n := by
      intro j
      induction j with
      | zero => intro _; exact Or.inr ⟨rfl, fun d hd => by omega⟩
      | succ j ih =>
        intro hj
        rw [hfs_s]
        rcases ih (by omega) with w | ⟨w, w2⟩
        · rw [if_pos w]; exact Or.inl (by omega)
        · rw [if_neg (by omega)]
          by_cases u : ok j = true ∧ h j = hmx h ok n
          · rw [if_pos u]; exact Or.inl (by omega)
          · rw [if_neg u]
            refine Or.inr ⟨rfl, fun d hd od => ?_⟩
            by_cases v : d = j
            · rw [v] at od ⊢
              exact fun y => u ⟨od, y⟩
            · exact w2 d (by omega) od
    rcases a n (Nat.le_refl n) with w | ⟨_, w⟩
    · omega
    · exact w c hc o ec
/-- by how many are left, and the set of those that are wrung -/
def mxF (g : Nat → Nat → Int) (n : Nat) : Nat → Nat → Int
  | 0, _ => 0
  | r + 1, w => hmx (fun c => g c (pop w) + mxF g n r (w ||| 2 ^ c)) (fun c => !w.testBit c) n
def okB (w : Nat) : Nat → Bool := fun c => !w.testBit c
def hB (g : Nat → Nat → Int) (n r w : Nat) : Nat → Int := fun c => g c (pop w) + mxF g n r (w ||| 2 ^ c)
theorem mxF_s (g : Nat → Nat → Int) (n r w : Nat) : mxF g n (r + 1) w = hmx (hB g n r w) (okB w) n := rfl
theorem mxF_0 (g : Nat → Nat → Int) (n : Nat) : ∀ r w, 0 ≤ mxF g n r w := by
  intro r w
  cases r with
  | zero => exact Int.le_refl 0
  | succ r => exact hmx_0 _ _ _
/-- the one that is wrung next, r + 1 left -/
def cho (g : Nat → Nat → Int) (n r w : Nat) : Nat := hfs (hB g n r w) (okB w) (mxF g n (r + 1) w) n
def gls (g : Nat → Nat → Int) (n : Nat) : Nat → Nat → List Nat
  | 0, _ => []
  | r + 1, w => cho g n r w :: gls g n r (w ||| 2 ^ cho g n r w)
/-- all orders of those that are not in a set, in their order -/
def ENc (w : Nat) (f : Nat → List (List Nat)) : Nat → List (List Nat)
  | 0 => []
  | c + 1 => ENc w f c ++ (if w.testBit c then [] else (f c).map (fun p => c :: p))
def EN (n : Nat) : Nat → Nat → List (List Nat)
  | 0, _ => [[]]
  | r + 1, w => ENc w (fun c => EN n r (w ||| 2 ^ c)) n
def vl (g : Nat → Nat → Int) : Nat → List Nat → Int
  | _, [] => 0
  | k, c :: p => g c k + vl g (k + 1) p
/-- a better one is kept -/
def stB (a : Int) (pr : List Nat) (g : Nat → Nat → Int) (k : Nat) (z : Int × List Nat) (p : List Nat) : Int × List Nat := if z.1 < a + vl g k p then (a + vl g k p, pr ++ p) else z
def finB (n w c : Nat) : Bool := !(decide (c < n) && decide (w < 2 ^ n) && !w.testBit c) || (decide (w < w ||| 2 ^ c) && decide (w ||| 2 ^ c < 2 ^ n) && decide (pop (w ||| 2 ^ c) = pop w + 1))
theorem finB_c : ((List.range 7).all fun n => (List.range 64).all fun w => (List.range 6).all fun c => finB n w c) = true := by decide +kernel
theorem fin_or (n : Nat) (hn : n < 7) (w : Nat) (hw : w < 64) (c : Nat) (hc : c < 6) (h1 : c < n) (h2 : w < 2 ^ n) (h3 : w.testBit c = false) : w < w ||| 2 ^ c ∧ w ||| 2 ^ c < 2 ^ n ∧ pop (w ||| 2 ^ c) = pop w + 1 := by
  have y := finB_c
  rw [List.all_eq_true] at y
  have y1 := y n (List.mem_range.mpr hn)
  rw [List.all_eq_true] at y1
  have y2 := y1 w (List.mem_range.mpr hw)
  rw [List.all_eq_true] at y2
  have y3 := y2 c (List.mem_range.mpr hc)
  unfold finB at y3
  rw [h3, decide_eq_true h1, decide_eq_true h2] at y3
  simp only [Bool.not_false, Bool.and_self, Bool.not_true, Bool.false_or, Bool.and_eq_true, decide_eq_true_eq] at y3
  exact ⟨y3.1.1, y3.1.2, y3.2⟩
def finP (n w : Nat) : Bool := !decide (w < 2 ^ n) || (decide (pop w ≤ n) && (!decide (pop w = n) || decide (w = 2 ^ n - 1)) && (!decide (pop w < n) || (List.range n).any (fun c => !w.testBit c)))
theorem finP_c : ((List.range 7).all fun n => (List.range 64).all fun w => finP n w) = true := by decide +kernel
theorem fin_pop (n : Nat) (hn : n < 7) (w : Nat) (hw : w < 64) (h2 : w < 2 ^ n) : pop w ≤ n ∧ (pop w = n → w = 2 ^ n - 1) ∧ (pop w < n → ∃ c, c < n ∧ w.testBit c = false) := by
  have y := finP_c
  rw [List.all_eq_true] at y
  have y1 := y n (List.mem_range.mpr hn)
  rw [List.all_eq_true] at y1
  have y2 := y1 w (List.mem_range.mpr hw)
  unfold finP at y2
  rw [decide_eq_true h2] at y2
  simp only [Bool.not_true, Bool.false_or, Bool.and_eq_true, Bool.or_eq_true, Bool.not_eq_true', decide_eq_false_iff_not, decide_eq_true_eq, List.any_eq_true, List.mem_range] at y2
  obtain ⟨⟨a, b⟩, c⟩ := y2
  refine ⟨a, fun e => ?_, fun e => ?_⟩
  · rcases b with b | b
    · exact absurd e b
    · exact b
  · rcases c with c | ⟨x, hx, hb⟩
    · exact absurd e c
    · exact ⟨x, hx, hb⟩
theorem p2_64 : ∀ n, n < 7 → 2 ^ n ≤ 64 := by decide
theorem fo_EN {g : Nat → Nat → Int} (g0 : ∀ c k, 0 ≤ g c k) {n : Nat} (hn : n < 7) : ∀ (r w : Nat) (a : Int) (pr : List Nat) (z : Int × List Nat), pop w + r = n → w < 2 ^ n → (EN n r w).foldl (stB a pr g (pop w)) z = if z.1 < a + mxF g n r w then (a + mxF g n r w, pr ++ gls g n r w) else z := by
  have p64 := p2_64 n hn
  intro r
  induction r with
  | zero =>
    intro w a pr z _ _
    show stB a pr g (pop w) z [] = _
    rfl
  | succ r ih =>
    intro w a pr z hp hw
    have hb0 : ∀ c, 0 ≤ hB g n r w c := fun c => by
      have := g0 c (pop w)
      have := mxF_0 g n r (w ||| 2 ^ c)
      show 0 ≤ g c (pop w) + mxF g n r (w ||| 2 ^ c)
      omega
    have main : ∀ c, c ≤ n → (ENc w (fun c => EN n r (w ||| 2 ^ c)) c).foldl (stB a pr g (pop w)) z = if (∃ d, d < c ∧ okB w d = true) ∧ z.1 < a + hmx (hB g n r w) (okB w) c then (a + hmx (hB g n r w) (okB w) c, pr ++ hfs (hB g n r w) (okB w) (hmx (hB g n r w) (okB w) c) c :: gls g n r (w ||| 2 ^ hfs (hB g n r w) (okB w) (hmx (hB g n r w) (okB w) c) c)) else z := by
      intro c
      induction c with
      | zero =>
        intro _
        rw [if_neg (fun u => by obtain ⟨d, hd, _⟩ := u.1; omega)]
        rfl
      | succ c ihc =>
        intro hc
        have h1 := ihc (by omega)
        show ((ENc w (fun c => EN n r (w ||| 2 ^ c)) c ++ (if w.testBit c then [] else (EN n r (w ||| 2 ^ c)).map (fun p => c :: p))).foldl (stB a pr g (pop w)) z) = _
        rw [List.foldl_append, h1]
        by_cases t : w.testBit c = true
        · have ot : ¬okB w c = true := by unfold okB; rw [t]; decide
          rw [if_pos t, hmx_s, if_neg ot, hfs_s, if_neg (show ¬(okB w c = true ∧ _) from fun u => ot u.1)]
          show (if (∃ d, d < c ∧ okB w d = true) ∧ z.1 < a + hmx (hB g n r w) (okB w) c then _ else z) = _
          by_cases u : (∃ d, d < c ∧ okB w d = true) ∧ z.1 < a + hmx (hB g n r w) (okB w) c
          · have fs := hmx_fs (hB g n r w) (okB w) hb0 c u.1
            obtain ⟨⟨d, hd, od⟩, u2⟩ := u
            rw [if_pos ⟨⟨d, hd, od⟩, u2⟩, if_pos ⟨⟨d, by omega, od⟩, u2⟩, if_pos fs]
          · rw [if_neg u, if_neg (fun v => u ⟨?_, v.2⟩)]
            obtain ⟨d, hd, od⟩ := v.1
            by_cases e : d = c
            · rw [e] at od; exact absurd od ot
            · exact ⟨d, by omega, od⟩
        · have tf : w.testBit c = false := by simpa using t
          have ot : okB w c = true := by unfold okB; rw [tf]; rfl
          have fo := fin_or n hn w (by omega) c (by omega) (by omega) hw tf
          have sub : ∀ z2 : Int × List Nat, ((EN n r (w ||| 2 ^ c)).map (fun p => c :: p)).foldl (stB a pr g (pop w)) z2 = if z2.1 < a + hB g n r w c then (a + hB g n r w c, pr ++ c :: gls g n r (w ||| 2 ^ c)) else z2 := by
            intro z2
            have h2 := ih (w ||| 2 ^ c) (a + g c (pop w)) (pr ++ [c]) z2 (by omega) fo.2.1
            rw [List.foldl_map]
            have ef : (fun (x : Int × List Nat) (y : List Nat) => stB a pr g (pop w) x (c :: y)) = stB (a + g c (pop w)) (pr ++ [c]) g (pop (w ||| 2 ^ c)) := by
              funext x y
              unfold stB
              rw [fo.2.2]
              show (if x.1 < a + (g c (pop w) + vl g (pop w + 1) y) then (a + (g c (pop w) + vl g (pop w + 1) y), pr ++ c :: y) else x) = _
              rw [Int.add_assoc, List.append_assoc]
              rfl
            rw [ef, h2]
            unfold hB
            rw [Int.add_assoc, List.append_assoc]
            rfl
          rw [if_neg t, sub, hmx_s, if_pos ot, hfs_s]
          have ex : ∃ d, d < c + 1 ∧ okB w d = true := ⟨c, by omega, ot⟩
          by_cases u : (∃ d, d < c ∧ okB w d = true) ∧ z.1 < a + hmx (hB g n r w) (okB w) c
          · have fs := hmx_fs (hB g n r w) (okB w) hb0 c u.1
            rw [if_pos u]
            by_cases v : hmx (hB g n r w) (okB w) c < hB g n r w c
            · have e : max (hmx (hB g n r w) (okB w) c) (hB g n r w c) = hB g n r w c := by omega
              rw [if_pos (by show a + hmx (hB g n r w) (okB w) c < _; omega), e, if_pos ⟨ex, by have := u.2; omega⟩]
              have no : hfs (hB g n r w) (okB w) (hB g n r w c) c = c := hfs_no _ _ _ _ (fun d hd od => by
                have := hmx_ge (hB g n r w) (okB w) c d hd od
                omega)
              rw [no, if_neg (by omega), if_pos ⟨ot, rfl⟩]
            · have e : max (hmx (hB g n r w) (okB w) c) (hB g n r w c) = hmx (hB g n r w) (okB w) c := by omega
              rw [if_neg (by show ¬a + hmx (hB g n r w) (okB w) c < _; omega), e, if_pos ⟨ex, u.2⟩, if_pos fs]
          · rw [if_neg u]
            have hz : z.1 < a + hB g n r w c → hmx (hB g n r w) (okB w) c ≤ hB g n r w c ∧ hfs (hB g n r w) (okB w) (hB g n r w c) c = c := by
              intro v
              by_cases y : ∃ d, d < c ∧ okB w d = true
              · have : ¬z.1 < a + hmx (hB g n r w) (okB w) c := fun x => u ⟨y, x⟩
                refine ⟨by omega, hfs_no _ _ _ _ (fun d hd od => ?_)⟩
                have := hmx_ge (hB g n r w) (okB w) c d hd od
                omega
              · refine ⟨?_, hfs_no _ _ _ _ (fun d hd od => absurd ⟨d, hd, od⟩ y)⟩
                have w0 : ∀ j, j ≤ c → hmx (hB g n r w) (okB w) j = 0 := by
                  intro j
                  induction j with
                  | zero => intro _; rfl
                  | succ j ih2 =>
                    intro hj
                    rw [hmx_s, if_neg (fun x => y ⟨j, by omega, x⟩)]
                    exact ih2 (by omega)
                have := hb0 c
                rw [w0 c (Nat.le_refl c)]
                exact this
            by_cases v : z.1 < a + hB g n r w c
            · obtain ⟨v1, v2⟩ := hz v
              have e : max (hmx (hB g n r w) (okB w) c) (hB g n r w c) = hB g n r w c := by omega
              rw [if_pos v, e, if_pos ⟨ex, v⟩, v2, if_neg (by omega), if_pos ⟨ot, rfl⟩]
            · rw [if_neg v, if_neg (fun x => ?_)]
              have x2 := x.2
              by_cases y : ∃ d, d < c ∧ okB w d = true
              · have : ¬z.1 < a + hmx (hB g n r w) (okB w) c := fun x => u ⟨y, x⟩
                omega
              · have w0 : ∀ j, j ≤ c → hmx (hB g n r w) (okB w) j = 0 := by
                  intro j
                  induction j with
                  | zero => intro _; rfl
                  | succ j ih2 =>
                    intro hj
                    rw [hmx_s, if_neg (fun x => y ⟨j, by omega, x⟩)]
                    exact ih2 (by omega)
                have := hb0 c
                rw [w0 c (Nat.le_refl c)] at x2
                omega
    have fp := fin_pop n hn w (by omega) hw
    obtain ⟨d, hd, td⟩ := fp.2.2 (by omega)
    have ex : ∃ d, d < n ∧ okB w d = true := ⟨d, hd, by unfold okB; rw [td]; rfl⟩
    show ((ENc w (fun c => EN n r (w ||| 2 ^ c)) n).foldl (stB a pr g (pop w)) z) = _
    rw [main n (Nat.le_refl n)]
    show (if (∃ d, d < n ∧ okB w d = true) ∧ z.1 < a + mxF g n (r + 1) w then (a + mxF g n (r + 1) w, pr ++ cho g n r w :: gls g n r (w ||| 2 ^ cho g n r w)) else z) = _
    by_cases v : z.1 < a + mxF g n (r + 1) w
    · rw [if_pos ⟨ex, v⟩, if_pos v]
      rfl
    · rw [if_neg (fun x => v x.2), if_neg v]
theorem pop_0 : pop 0 = 0 := by decide
/-- the best of all orders -/
theorem best_EN {g : Nat → Nat → Int} (g0 : ∀ c k, 0 ≤ g c k) {n : Nat} (hn : n < 7) : (EN n n 0).foldl (stB 0 [] g 0) (-1, []) = (mxF g n n 0, gls g n n 0) := by
  have h := fo_EN g0 hn n 0 0 [] (-1, []) (by rw [pop_0]; omega) (Nat.two_pow_pos n)
  rw [pop_0] at h
  rw [h, if_pos (by have := mxF_0 g n n 0; show (-1 : Int) < 0 + mxF g n n 0; omega), Int.zero_add]
  rfl
/-- one order and the next -/
def kOf (p : List Nat) : Nat → Nat
  | 0 => 0
  | k + 1 => if p.getD k 0 < p.getD (k + 1) 0 then k + 1 else kOf p k
def jOf (p : List Nat) (a : Nat) : Nat → Nat
  | 0 => 0
  | j + 1 => if a ≤ p.getD j 0 then j else jOf p a j
def swp (p : List Nat) (k j x : Nat) : Nat := if x = j then p.getD k 0 else if x = k then p.getD j 0 else p.getD x 0
def nxt1 (n : Nat) (p q : List Nat) : Bool :=
  let k1 := kOf p (n - 1)
  let k := k1 - 1
  let j := jOf p (p.getD k 0) n
  decide (1 ≤ k1) && decide (k1 < n) && (List.range n).all (fun i => !(decide (k1 ≤ i) && decide (i + 1 < n)) || decide (p.getD (i + 1) 0 < p.getD i 0)) && decide (p.getD k 0 ≤ p.getD (k + 1) 0) && decide (k < j) && decide (j < n) && (List.range n).all (fun i => !decide (j < i) || decide (p.getD i 0 < p.getD k 0)) && decide (p.getD k 0 ≤ p.getD j 0) && (List.range n).all (fun x => q.getD x 0 == if x ≤ k then swp p k j x else swp p k j (n + k - x))
def lst1 (n : Nat) (p : List Nat) : Bool := (List.range n).all (fun i => !decide (i + 1 < n) || decide (p.getD (i + 1) 0 < p.getD i 0))
def chn (n : Nat) : List (List Nat) → Bool
  | [] => false
  | p :: t => (p.length == n) && p.all (fun c => decide (c < n)) && (match t with
    | [] => lst1 n p
    | q :: _ => nxt1 n p q && chn n t)
theorem chn_c : ∀ n, n < 7 → (chn n (EN n n 0) && ((EN n n 0).head? == some (List.range n))) = true := by decide +kernel
