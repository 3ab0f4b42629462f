/-! the reference's place told -/
def FtM (m m2 : Mem) (f p : Int) : Prop := ∃ m1, AhF m m1 ∧ m2 = Bl m1 f p
theorem ahf_trans {m m2 m3 : Mem} (h : AhF m m2) (g : AhF m2 m3) : AhF m m3 := ⟨fun a ha => by rw [g.1 a ha, h.1 a ha], fun j hj => by rw [g.2 j hj, h.2 j hj]⟩
theorem ib_ah {m m2 : Mem} {B : Nat} {I : Isl} {l : Lnd} (f : AhF m m2) (h : IB m B I l) : IB m2 B I l := by
  obtain ⟨hB, i40, i66, i67, i73, i75, r69, r70, r74, r78⟩ := h
  refine ⟨hB, by rw [f.2 40 (by decide)]; exact i40, by rw [f.1 266 (by decide)]; exact i66, by rw [f.1 267 (by decide)]; exact i67, by rw [f.1 273 (by decide)]; exact i73, by rw [f.1 275 (by decide)]; exact i75, fun c hc => by rw [f.1 269 (by decide)]; exact r69 c hc, fun c hc => by rw [f.1 270 (by decide)]; exact r70 c hc, fun c hc => by rw [f.1 274 (by decide)]; exact r74 c hc, fun c hc => by rw [f.1 278 (by decide)]; exact r78 c hc⟩
theorem ib_bl {m : Mem} {B : Nat} {I : Isl} {l : Lnd} (k p : Int) (h : IB m B I l) : IB (Bl m k p) B I l := by
  obtain ⟨hB, i40, i66, i67, i73, i75, r69, r70, r74, r78⟩ := h
  have e : ∀ a, ¬a = 264 → Bl m k p a = m a := fun a ha => by
    unfold Bl
    rw [up_setA (up m 264 8 k), setA_ne ha, up_setA, setA_ne ha]
  refine ⟨hB, by unfold Bl; rw [up_slot (by decide), up_slot (by decide)]; exact i40, by rw [e 266 (by decide)]; exact i66, by rw [e 267 (by decide)]; exact i67, by rw [e 273 (by decide)]; exact i73, by rw [e 275 (by decide)]; exact i75, fun c hc => by rw [e 269 (by decide)]; exact r69 c hc, fun c hc => by rw [e 270 (by decide)]; exact r70 c hc, fun c hc => by rw [e 274 (by decide)]; exact r74 c hc, fun c hc => by rw [e 278 (by decide)]; exact r78 c hc⟩
theorem ib_w {m : Mem} {B : Nat} {I : Isl} {l : Lnd} (r : Refs m) (h : IB m B I l) : getR 11 14 264 m = some 266 ∧ getR 11 15 264 m = some 267 ∧ getI 11 40 264 m = some (B : Int) ∧ aldI 266 (B : Int) m = some (I 0 0) ∧ aldI 267 (B : Int) m = some (I 1 0) := by
  obtain ⟨hB, i40, i66, i67, _⟩ := h
  refine ⟨rc r 266 (by decide +kernel), rc r 267 (by decide +kernel), by rw [g264 (by decide), i40], ?_, ?_⟩
  · rw [arI 2 (by decide +kernel) (by omega) (by omega) m, Int.toNat_natCast, i66]
  · rw [arI 2 (by decide +kernel) (by omega) (by omega) m, Int.toNat_natCast, i67]
