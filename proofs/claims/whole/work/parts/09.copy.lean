/-- System.arraycopy between rows of ints -/
def acopy (a0 : Nat) (sp : Int) (a1 : Nat) (dp k : Int) (m : Mem) : Option Mem :=
  if shK a0 = 1 ∧ shK a1 = 1 ∧ 3 ≤ a0 ∧ 3 ≤ a1 ∧ 0 ≤ sp ∧ 0 ≤ dp ∧ 0 ≤ k ∧ sp + k ≤ shN a0 ∧ dp + k ≤ shN a1 then
    some (fun b j => if b = a1 ∧ dp.toNat ≤ j ∧ j < dp.toNat + k.toNat then m a0 (sp.toNat + (j - dp.toNat)) else m b j) else none
theorem RelH.setA {w : Wd} {n : Nat} {m m2 : Mem} {H H' : Heap} {s : State} (h : RelH w n m H) (hS : RelS w s) (hn12 : n ≤ 312) {a : Nat} (h3 : 3 ≤ a) (hn : a ≤ n) (hz0 : shK a ≠ 0) (hm : ∀ b, b ≠ a → m2 b = m b) (hz : H'.size = H.size) (ho : ∀ q, q ≠ wA w a → H'[q]? = H[q]?)
    (hat : va_at (wD w) vwCl (wA w a, ent w a (m2 a)) H') (hok : ∀ k, okC a k (m2 a k)) : RelH w n m2 H' := by
  obtain ⟨r1, r2, r3, r4, r5, r6, r7⟩ := h
  refine ⟨fun b h1 hb hb0 => ?_, by rw [hz]; exact r2, r3, fun b j => ?_, fun b hb j => ?_, fun j => by rw [hm 1 (by omega)]; exact r6 j, fun j => by rw [hm 2 (by omega)]; exact r7 j⟩
  · by_cases e : b = a
    · subst e; exact hat
    · rw [hm b e]
      exact (r1 b h1 hb hb0).kept (ho _ (wA_ne hS h1 (by omega) hb0 h3 (by omega) hz0 e))
  · by_cases e : b = a
    · subst e; exact hok j
    · rw [hm b e]; exact r4 b j
  · rw [hm b (by omega)]
    exact r5 b hb j
section JY
variable {g : Gm} {w : Wd} {own : String} {cc : ByteArray} {nL : Nat} {rt : Option FieldType} {R : Room} {Q : State → Prop} {pc : Nat} {ls : List (Option V)} {st : List V} {n : Nat} {m : Mem} {cs sl : Nat} {α : Type} {out : α}
def AL (own : String) (idx : Nat) : Prop := Cond.methodLink own idx arraycopyName ∈ tb ∧ Cond.native arraycopyName ∈ tb ∧ Cond.static arraycopyName ∈ tb ∧ Cond.initialized "java/lang/System" ∈ tb
theorem j_acopy (C : Cx g w own cc nL rt) {idx lv mcR msR : Nat} {a0 a1 : Nat} {sp dp k : Int} {K : Mem → Option α} (d : decode cc pc = .ok (.invokestatic idx, 3)) (L : AL own idx) (hR : R = rmL lv mcR msR) (hlv : 0 < lv) (hcat : (st.map vcat).sum ≤ 8) (hn : n = 312)
    (h : (acopy a0 sp a1 dp k m).bind K = some out) (kk : ∀ m', K m' = some out → Jd g w nL R Q (pc + 3) ls st n m' cs sl) : Jd g w nL R Q pc ls (vI k :: vI dp :: vR a1 :: vI sp :: vR a0 :: st) n m cs sl := by
  intro H locs la hRel hS hl ho hs T hT X
  subst hR
  unfold acopy at h
  by_cases q : shK a0 = 1 ∧ shK a1 = 1 ∧ 3 ≤ a0 ∧ 3 ≤ a1 ∧ 0 ≤ sp ∧ 0 ≤ dp ∧ 0 ≤ k ∧ sp + k ≤ shN a0 ∧ dp + k ≤ shN a1
  · rw [if_pos q] at h
    obtain ⟨q1, q2, q0, q3, q4, q5, q6, q7, q8⟩ := q
    have hk := cat_sum (w := w) hcat
    have hnw : nativeFrameWords "java/lang/System" "arraycopy" 5 = 7 := by decide
    obtain ⟨ik, idp, -, isp, -, hst⟩ := hs
    have hP0 := hRel.one q0 (by have := shK_le (a := a0) (by omega); omega) (by omega) (ent_I (w := w) (m a0) q1)
    have hP1 := hRel.one q3 (by have := shK_le (a := a1) (by omega); omega) (by omega) (ent_I (w := w) (m a1) q2)
    have hc0 : H[wA w a0]? = some (vp_cell (wC w 0) (shN a0, .inl fun j => Int32.ofInt (m a0 j))) := hP0 0 _ rfl
    have hc1 : H[wA w a1]? = some (vp_cell (wC w 0) (shN a1, .inl fun j => Int32.ofInt (m a1 j))) := hP1 0 _ rfl
    obtain ⟨-, k0, hk0, cm0, hkk0⟩ := (C.k.2 0 _ rfl).1 (shN a0) (fun j => .int (Int32.ofInt (m a0 j)))
    obtain ⟨-, k1, hk1, cm1, hkk1⟩ := (C.k.2 0 _ rfl).1 (shN a1) (fun j => .int (Int32.ofInt (m a1 j)))
    obtain ⟨vm', X', step⟩ := X.arraycopy C.1 C.2.2.2.1 (C.tbl L.1) (C.tbl L.2.1) (C.tbl L.2.2.1) (C.tbl L.2.2.2) (src := wA w a0) (dst := wA w a1) (cs := vp_cell (wC w 0) (shN a0, .inl fun j => Int32.ofInt (m a0 j))) (cd := vp_cell (wC w 0) (shN a1, .inl fun j => Int32.ofInt (m a1 j))) (srcPos := Int32.ofInt sp) (destPos := Int32.ofInt dp) (n := Int32.ofInt k) (by rw [hT]; exact hc0) (by rw [hT]; exact hc1)
      (fun _ h => by cases h) (fun _ h => by cases h) (fun h => by cases h) (fun h => by cases h) hk0 hk1 hkk0 hkk1 (by simp [refKind]) (fun z => by have := (ltI0 isp).mp z; omega) (fun z => by have := (ltI0 idp).mp z; omega) (fun z => by have := (ltI0 ik).mp z; omega)
      (by rw [toI_of isp, toI_of ik]; show ¬ _ > ((arrV _ _ _).slots.size : Int); rw [arrV_size]; omega)
      (by rw [toI_of idp, toI_of ik]; show ¬ _ > ((arrV _ _ _).slots.size : Int); rw [arrV_size]; omega)
      (fun vm₁ _ i hi => by
        rw [natI ik] at hi
        rw [natI isp]
        have e : (vp_cell (wC w 0) (shN a0, .inl fun j => Int32.ofInt (m a0 j))).slots.getD (sp.toNat + i) .null = .int (Int32.ofInt (m a0 (sp.toNat + i))) := by
          show (arrV _ _ (fun j => .int (Int32.ofInt (m a0 j)))).slots.getD _ _ = _
          rw [Array.getD_eq_getD_getElem?, arrV_read _ _ (by omega)]
          rfl
        refine ⟨?_, ?_⟩
        · rw [e]; rfl
        · rw [e]; exact trivial)
      (g := F0 (gm g) pc la ((vI k :: vI dp :: vR a1 :: vI sp :: vR a0 :: st).map (cv w))) rfl (by rw [C.2.2.1]; exact hl.1) (rest := st.map (cv w)) rfl (by rw [C.2.1]; exact d) (by show 1 ≤ lv; omega) (by show 2 * 0 + _ + _ ≤ 64 * lv; omega)
    have e1 : copied (vp_cell (wC w 0) (shN a0, .inl fun j => Int32.ofInt (m a0 j))) (vp_cell (wC w 0) (shN a1, .inl fun j => Int32.ofInt (m a1 j))) (Int32.ofInt sp) (Int32.ofInt dp) (Int32.ofInt k) = vp_cell (wC w 0) (shN a1, .inl (va_cpy (fun j => Int32.ofInt (m a0 j)) (fun j => Int32.ofInt (m a1 j)) sp.toNat dp.toNat k.toNat)) := by
      have := va_copied (fun z => .int z) (wC w 0) (wC w 0) (n0 := shN a0) (n1 := shN a1) (fun j => Int32.ofInt (m a0 j)) (fun j => Int32.ofInt (m a1 j)) (sp := sp.toNat) (dp := dp.toNat) (n := k.toNat) (by omega)
      rw [← natI isp, ← natI idp, ← natI ik] at this
      rw [← natI isp, ← natI idp, ← natI ik]
      exact this
    rw [e1] at X' step
    have hlt : wA w a1 < H.size := (Array.getElem?_eq_some_iff.mp hc1).1
    generalize hcl : vp_cell (wC w 0) (shN a1, .inl (va_cpy (fun j => Int32.ofInt (m a0 j)) (fun j => Int32.ofInt (m a1 j)) sp.toNat dp.toNat k.toNat)) = cl at X' step
    have hheap : ((T.setVm vm').setCell (wA w a1) cl).heap = H.setIfInBounds (wA w a1) cl := by rw [← hT]; rfl
    have oq : ∀ q : Nat, q ≠ wA w a1 → (H.setIfInBounds (wA w a1) cl)[q]? = H[q]? := fun q hq => by simp [Array.getElem?_setIfInBounds, Ne.symm hq]
    have haw := aw_dyn C.rs q3 (by have := shK_le (a := a1) (by omega); omega)
    obtain ⟨t, a1', b1⟩ := kk _ h (H.setIfInBounds (wA w a1) cl) _ la (hRel.setA C.rs (by omega) q3 (by have := shK_le (a := a1) (by omega); omega) (by omega) (fun b hb => by funext j; rw [if_neg (fun z => hb z.1)]) (by simp) oq (by
        rw [ent_I _ q2]
        show (H.setIfInBounds (wA w a1) cl)[wA w a1]? = some _
        rw [Array.getElem?_setIfInBounds]
        simp only [if_true, hlt]
        rw [← hcl]
        congr 3
        congr 1
        funext j
        unfold va_cpy
        by_cases z : dp.toNat ≤ j ∧ j < dp.toNat + k.toNat
        · rw [if_pos z, if_pos ⟨trivial, z⟩]
        · rw [if_neg z, if_neg (fun y => z y.2)]) (fun j => by
        have r4 := hRel.2.2.2.1
        have c0 : ∀ i, inI (m a0 i) := fun i => (r4 a0 i).1 (by unfold kdAt; rw [if_pos q1])
        have c1 : ∀ i, inI (m a1 i) := fun i => (r4 a1 i).1 (by unfold kdAt; rw [if_pos q2])
        unfold okC kdAt
        rw [if_pos q2]
        refine ⟨fun _ => ?_, fun z => absurd z (by decide)⟩
        split
        · exact c0 _
        · exact c1 _)) ⟨by simp; exact hS.1, fun q g1 g2 => by
        rw [oq q (fun e => g2 (by rw [e]; exact haw))]
        exact hS.2.1 q g1 g2, fun q hq => by
        rcases List.mem_append.mp hq with h | h
        · exact hS.2.2 q h
        · obtain ⟨z, -, hz⟩ := List.mem_map.mp h
          rw [← hz]
          exact haw⟩ hl ho hst _ hheap X'
    exact ⟨t, step t a1', b1⟩
  · rw [if_neg q] at h; cases h
end JY
