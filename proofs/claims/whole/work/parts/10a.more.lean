def iusr (x y : Int) : Int := ((Int32.ofInt x).toUInt32 >>> ((Int32.ofInt y).toUInt32 &&& Int32.toUInt32 31)).toInt32.toInt
theorem j_iushr {g : Gm} {w : Wd} {own : String} {cc : ByteArray} {nL : Nat} {rt : Option FieldType} {R : Room} {Q : State → Prop} {pc : Nat} {ls : List (Option V)} {st : List V} {n : Nat} {m : Mem} {cs sl : Nat} (C : Cx g w own cc nL rt) {x y : Int} (d : decode cc pc = .ok (.iushr, 1)) (k : Jd g w nL R Q (pc + 1) ls (vI (iusr x y) :: st) n m cs sl) : Jd g w nL R Q pc ls (vI y :: vI x :: st) n m cs sl := by
  intro H locs la hR hS hl ho hs
  exact lv_iushr C.1 C.2.1 d (by unfold iusr; rw [Int32.ofInt_toInt]) (k H locs la hR hS hl ho ⟨inI_toInt _, hs.2.2⟩)
