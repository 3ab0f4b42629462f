/-! what each method does, as a pure function; printed by program from the bytecode -/
-- java/util/Arrays.fill([II)V
def J7_fill_53178_L5_b (N : Nat) (r5 : Nat → Int → Int → Int → Mem → Option Mem) (l0 : Nat) (l1 : Int) (l2 : Int) (l3 : Int) (m : Mem) : Option Mem :=
  if l3 ≤ l2 then (
    some m
  ) else (
    (astI l0 l2 l1 m).bind fun m2 =>
    r5 l0 l1 (wI (l2 + 1)) l3 m2
  )
def J7_fill_53178_L5 (N : Nat) : Nat → Nat → Int → Int → Int → Mem → Option Mem
  | 0 => fun _ _ _ _ _ => none
  | f + 1 => J7_fill_53178_L5_b N (J7_fill_53178_L5 N f)
def J7_fill_53178 (N : Nat) (l0 : Nat) (l1 : Int) (m : Mem) : Option Mem :=
  (alen l0).bind fun t1 =>
  J7_fill_53178_L5 N N l0 l1 0 t1 m
-- DewBaron$Plan.cells()I
def X5_cells (l0 : Nat) (m : Mem) : Option Int :=
  if shK l0 = 5 + 10 then (
    (getI 5 0 l0 m).bind fun t1 =>
    (getI 5 1 l0 m).bind fun t2 =>
    some (wI (t1 * t2))
  ) else none
-- DewBaron$Plan.isCell(I)Z
def X5_isCell (l0 : Nat) (l1 : Int) (m : Mem) : Option Int :=
  if shK l0 = 5 + 10 then (
    if l1 < 0 then (
      retZ 0
    ) else (
      (getI 5 0 l0 m).bind fun t1 =>
      (getI 5 1 l0 m).bind fun t2 =>
      if (wI (t1 * t2)) ≤ l1 then (
        retZ 0
      ) else (
        retZ 1
      )
    )
  ) else none
-- DewBaron$Land.hasWall(I)Z
def X1_hasWall (l0 : Nat) (l1 : Int) (m : Mem) : Option Int :=
  if shK l0 = 1 + 10 then (
    if l1 < 0 then (
      retZ 0
    ) else (
      (getR 1 0 l0 m).bind fun t1 =>
      (alen t1).bind fun t2 =>
      if t2 ≤ l1 then (
        retZ 0
      ) else (
        (getR 1 0 l0 m).bind fun t3 =>
        (aldI t3 l1 m).bind fun t4 =>
        if ¬ t4 = 1 then (
          retZ 0
        ) else (
          retZ 1
        )
      )
    )
  ) else none
-- DewBaron$Plan.lower(LDewBaron$Land;I)I
def X5_lower_J92 (N : Nat) (r25 : Nat → Nat → Int → Int → Int → Int → Option Int) (l0 : Nat) (l1 : Nat) (l2 : Int) (l3 : Int) (l4 : Int) (l5 : Int) (m : Mem) : Option Int :=
  r25 l0 l1 l2 l3 l4 (wI (l5 + 1))
def X5_lower_L25_b (N : Nat) (m : Mem) (r25 : Nat → Nat → Int → Int → Int → Int → Option Int) (l0 : Nat) (l1 : Nat) (l2 : Int) (l3 : Int) (l4 : Int) (l5 : Int) : Option Int :=
  if 4 ≤ l5 then (
    some l3
  ) else (
    (X5_isCell l0 l2 m).bind fun p2 =>
    if p2 = 0 then (
      some l3
    ) else (
      (getR 5 2 l0 m).bind fun t3 =>
      (aldR t3 l5 m).bind fun t4 =>
      (aldI t4 l2 m).bind fun t5 =>
      (X5_isCell l0 t5 m).bind fun p6 =>
      if p6 = 0 then (
        X5_lower_J92 N r25 l0 l1 l2 l3 l4 l5 m
      ) else (
        (X1_hasWall l1 t5 m).bind fun p7 =>
        if ¬ p7 = 0 then (
          X5_lower_J92 N r25 l0 l1 l2 l3 l4 l5 m
        ) else (
          (getR 5 3 l0 m).bind fun t8 =>
          (aldI t8 t5 m).bind fun t9 =>
          if l4 ≤ t9 then (
            X5_lower_J92 N r25 l0 l1 l2 l3 l4 l5 m
          ) else (
            (getR 5 3 l0 m).bind fun t10 =>
            (aldI t10 t5 m).bind fun t11 =>
            X5_lower_J92 N r25 l0 l1 l2 t5 t11 l5 m
          )
        )
      )
    )
  )
def X5_lower_L25 (N : Nat) (m : Mem) : Nat → Nat → Nat → Int → Int → Int → Int → Option Int
  | 0 => fun _ _ _ _ _ _ => none
  | f + 1 => X5_lower_L25_b N m (X5_lower_L25 N m f)
def X5_lower_J20 (N : Nat) (l0 : Nat) (l1 : Nat) (l2 : Int) (l3 : Int) (s0 : Int) (m : Mem) : Option Int :=
  X5_lower_L25 N m N l0 l1 l2 l3 s0 0
def X5_lower (N : Nat) (l0 : Nat) (l1 : Nat) (l2 : Int) (m : Mem) : Option Int :=
  if shK l0 = 5 + 10 then (
    (X5_isCell l0 l2 m).bind fun p1 =>
    if p1 = 0 then (
      X5_lower_J20 N l0 l1 l2 (-1) 0 m
    ) else (
      (getR 5 3 l0 m).bind fun t17 =>
      (aldI t17 l2 m).bind fun t18 =>
      X5_lower_J20 N l0 l1 l2 (-1) t18 m
    )
  ) else none
-- DewBaron$Night.poolOf(I)I
def X3_poolOf_L4_b (N : Nat) (m : Mem) (r4 : Nat → Int → Int → Option Int) (l0 : Nat) (l2 : Int) (l3 : Int) : Option Int :=
  if 9 ≤ l3 then (
    some l2
  ) else (
    (getR 3 2 l0 m).bind fun t1 =>
    (aldI t1 l2 m).bind fun t2 =>
    if t2 = (-1) then (
      some l2
    ) else (
      (getR 3 2 l0 m).bind fun t3 =>
      (aldI t3 l2 m).bind fun t4 =>
      r4 l0 t4 (wI (l3 + 1))
    )
  )
def X3_poolOf_L4 (N : Nat) (m : Mem) : Nat → Nat → Int → Int → Option Int
  | 0 => fun _ _ _ => none
  | f + 1 => X3_poolOf_L4_b N m (X3_poolOf_L4 N m f)
def X3_poolOf (N : Nat) (l0 : Nat) (l1 : Int) (m : Mem) : Option Int :=
  if shK l0 = 3 + 10 then (
    X3_poolOf_L4 N m N l0 l1 0
  ) else none
-- DewBaron$Night.chill(LDewBaron$Plan;LDewBaron$Land;)V
def X3_chill_L10_b (N : Nat) (k36 : Nat → Nat → Nat → Mem → Option Mem) (r10 : Nat → Nat → Nat → Int → Mem → Option Mem) (l0 : Nat) (l1 : Nat) (l2 : Nat) (l3 : Int) (m : Mem) : Option Mem :=
  (X5_cells l1 m).bind fun p3 =>
  if p3 ≤ l3 then (
    k36 l0 l1 l2 m
  ) else (
    (getR 3 2 l0 m).bind fun t4 =>
    (X5_lower N l1 l2 l3 m).bind fun p5 =>
    (astI t4 l3 p5 m).bind fun m6 =>
    r10 l0 l1 l2 (wI (l3 + 1)) m6
  )
def X3_chill_L10 (N : Nat) (k36 : Nat → Nat → Nat → Mem → Option Mem) : Nat → Nat → Nat → Nat → Int → Mem → Option Mem
  | 0 => fun _ _ _ _ _ => none
  | f + 1 => X3_chill_L10_b N k36 (X3_chill_L10 N k36 f)
def X3_chill_J68 (N : Nat) (r38 : Nat → Nat → Nat → Int → Mem → Option Mem) (l0 : Nat) (l1 : Nat) (l2 : Nat) (l3 : Int) (m : Mem) : Option Mem :=
  r38 l0 l1 l2 (wI (l3 + 1)) m
def X3_chill_L38_b (N : Nat) (k74 : Nat → Mem → Option Mem) (r38 : Nat → Nat → Nat → Int → Mem → Option Mem) (l0 : Nat) (l1 : Nat) (l2 : Nat) (l3 : Int) (m : Mem) : Option Mem :=
  (X5_cells l1 m).bind fun p12 =>
  if p12 ≤ l3 then (
    k74 l0 m
  ) else (
    (X1_hasWall l2 l3 m).bind fun p13 =>
    if ¬ p13 = 0 then (
      X3_chill_J68 N r38 l0 l1 l2 l3 m
    ) else (
      (getR 3 3 l0 m).bind fun t14 =>
      (X3_poolOf N l0 l3 m).bind fun p15 =>
      (aldI t14 p15 m).bind fun t16 =>
      (astI t14 p15 (wI (t16 + 1)) m).bind fun m17 =>
      X3_chill_J68 N r38 l0 l1 l2 l3 m17
    )
  )
def X3_chill_L38 (N : Nat) (k74 : Nat → Mem → Option Mem) : Nat → Nat → Nat → Nat → Int → Mem → Option Mem
  | 0 => fun _ _ _ _ _ => none
  | f + 1 => X3_chill_L38_b N k74 (X3_chill_L38 N k74 f)
def X3_chill_J109 (N : Nat) (r76 : Nat → Int → Mem → Option Mem) (l0 : Nat) (l3 : Int) (s0 : Nat) (s1 : Int) (s2 : Int) (s3 : Int) (m : Mem) : Option Mem :=
  (astI s0 s1 (wI (s2 + s3)) m).bind fun m27 =>
  r76 l0 (wI (l3 + 1)) m27
def X3_chill_L76_b (N : Nat) (r76 : Nat → Int → Mem → Option Mem) (l0 : Nat) (l3 : Int) (m : Mem) : Option Mem :=
  if 12 < l3 then (
    some m
  ) else (
    (getR 3 1 l0 m).bind fun t22 =>
    (getR 3 1 l0 m).bind fun t23 =>
    (aldI t23 (wI (l3 - 1)) m).bind fun t24 =>
    (getR 3 0 l0 m).bind fun t25 =>
    (aldI t25 l3 m).bind fun t26 =>
    if ¬ t26 = 0 then (
      X3_chill_J109 N r76 l0 l3 t22 l3 t24 0 m
    ) else (
      X3_chill_J109 N r76 l0 l3 t22 l3 t24 1 m
    )
  )
def X3_chill_L76 (N : Nat) : Nat → Nat → Int → Mem → Option Mem
  | 0 => fun _ _ _ => none
  | f + 1 => X3_chill_L76_b N (X3_chill_L76 N f)
def X3_chill (N : Nat) (l0 : Nat) (l1 : Nat) (l2 : Nat) (m : Mem) : Option Mem :=
  if shK l0 = 3 + 10 then (
    (getR 3 3 l0 m).bind fun t1 =>
    (J7_fill_53178 N t1 0 m).bind fun p2 =>
    X3_chill_L10 N (fun z8 z9 z10 m11 =>
        X3_chill_L38 N (fun z20 m21 =>
            X3_chill_L76 N N z20 1 m21) N z8 z9 z10 0 m11) N l0 l1 l2 0 p2
  ) else none
-- DewBaron$Plan.openness(LDewBaron$Land;I)I
def X5_openness_J40 (N : Nat) (r6 : Nat → Nat → Int → Int → Int → Option Int) (l0 : Nat) (l1 : Nat) (l2 : Int) (l3 : Int) (l4 : Int) (m : Mem) : Option Int :=
  r6 l0 l1 l2 l3 (wI (l4 + 1))
def X5_openness_L6_b (N : Nat) (m : Mem) (r6 : Nat → Nat → Int → Int → Int → Option Int) (l0 : Nat) (l1 : Nat) (l2 : Int) (l3 : Int) (l4 : Int) : Option Int :=
  if 8 ≤ l4 then (
    some l3
  ) else (
    (X5_isCell l0 l2 m).bind fun p1 =>
    if p1 = 0 then (
      some l3
    ) else (
      (getR 5 2 l0 m).bind fun t2 =>
      (aldR t2 l4 m).bind fun t3 =>
      (aldI t3 l2 m).bind fun t4 =>
      (X1_hasWall l1 t4 m).bind fun p5 =>
      if p5 = 0 then (
        X5_openness_J40 N r6 l0 l1 l2 l3 l4 m
      ) else (
        X5_openness_J40 N r6 l0 l1 l2 (wI (l3 + (-1))) l4 m
      )
    )
  )
def X5_openness_L6 (N : Nat) (m : Mem) : Nat → Nat → Nat → Int → Int → Int → Option Int
  | 0 => fun _ _ _ _ _ => none
  | f + 1 => X5_openness_L6_b N m (X5_openness_L6 N m f)
def X5_openness (N : Nat) (l0 : Nat) (l1 : Nat) (l2 : Int) (m : Mem) : Option Int :=
  if shK l0 = 5 + 10 then (
    X5_openness_L6 N m N l0 l1 l2 8 0
  ) else none
-- DewBaron$Plan.housesBy(I)I
def X5_housesBy_J48 (N : Nat) (r4 : Nat → Int → Int → Int → Option Int) (l0 : Nat) (l1 : Int) (l3 : Int) (s0 : Int) (s1 : Int) (m : Mem) : Option Int :=
  r4 l0 l1 (wI (s0 + s1)) (wI (l3 + 1))
def X5_housesBy_L4_b (N : Nat) (m : Mem) (r4 : Nat → Int → Int → Int → Option Int) (l0 : Nat) (l1 : Int) (l2 : Int) (l3 : Int) : Option Int :=
  if 4 ≤ l3 then (
    some l2
  ) else (
    (X5_isCell l0 l1 m).bind fun p1 =>
    if p1 = 0 then (
      some l2
    ) else (
      (getR 5 2 l0 m).bind fun t2 =>
      (aldR t2 l3 m).bind fun t3 =>
      (aldI t3 l1 m).bind fun t4 =>
      (X5_isCell l0 t4 m).bind fun p5 =>
      if p5 = 0 then (
        X5_housesBy_J48 N r4 l0 l1 l3 l2 0 m
      ) else (
        (getR 5 4 l0 m).bind fun t6 =>
        (aldI t6 t4 m).bind fun t7 =>
        X5_housesBy_J48 N r4 l0 l1 l3 l2 t7 m
      )
    )
  )
def X5_housesBy_L4 (N : Nat) (m : Mem) : Nat → Nat → Int → Int → Int → Option Int
  | 0 => fun _ _ _ _ => none
  | f + 1 => X5_housesBy_L4_b N m (X5_housesBy_L4 N m f)
def X5_housesBy (N : Nat) (l0 : Nat) (l1 : Int) (m : Mem) : Option Int :=
  if shK l0 = 5 + 10 then (
    X5_housesBy_L4 N m N l0 l1 0 0
  ) else none
-- DewBaron$Night.coldIn(II)I
def X3_coldIn_J25 (l0 : Nat) (l1 : Int) (l2 : Int) (s0 : Int) (m : Mem) : Option Int :=
  if s0 = 0 then (
    some 0
  ) else (
    (getR 3 3 l0 m).bind fun t1 =>
    (aldI t1 l1 m).bind fun t2 =>
    (getR 3 1 l0 m).bind fun t3 =>
    (aldI t3 l2 m).bind fun t4 =>
    some (wI (t2 * t4))
  )
def X3_coldIn_J24 (l0 : Nat) (l1 : Int) (l2 : Int) (m : Mem) : Option Int :=
  X3_coldIn_J25 l0 l1 l2 0 m
def X3_coldIn (l0 : Nat) (l1 : Int) (l2 : Int) (m : Mem) : Option Int :=
  if shK l0 = 3 + 10 then (
    if l1 < 0 then (
      X3_coldIn_J24 l0 l1 l2 m
    ) else (
      if 42 ≤ l1 then (
        X3_coldIn_J24 l0 l1 l2 m
      ) else (
        if l2 < 0 then (
          X3_coldIn_J24 l0 l1 l2 m
        ) else (
          if 12 < l2 then (
            X3_coldIn_J24 l0 l1 l2 m
          ) else (
            X3_coldIn_J25 l0 l1 l2 1 m
          )
        )
      )
    )
  ) else none
-- DewBaron$Night.lookUp(II)V
def X3_lookUp_J77 (s0 : Nat) (s1 : Int) (s2 : Int) (m : Mem) : Option Mem :=
  (astI s0 s1 s2 m).bind fun m16 =>
  some m16
def X3_lookUp_J55 (l0 : Nat) (l1 : Int) (s0 : Nat) (s1 : Int) (s2 : Int) (m : Mem) : Option Mem :=
  (astI s0 s1 s2 m).bind fun m12 =>
  (getR 3 4 l0 m12).bind fun t13 =>
  (getR 3 0 l0 m12).bind fun t14 =>
  (aldI t14 l1 m12).bind fun t15 =>
  if ¬ t15 = 3 then (
    X3_lookUp_J77 t13 6 0 m12
  ) else (
    X3_lookUp_J77 t13 6 1 m12
  )
def X3_lookUp_J34 (l0 : Nat) (l1 : Int) (s0 : Nat) (s1 : Int) (s2 : Int) (m : Mem) : Option Mem :=
  (astI s0 s1 s2 m).bind fun m8 =>
  (getR 3 4 l0 m8).bind fun t9 =>
  (getR 3 0 l0 m8).bind fun t10 =>
  (aldI t10 l1 m8).bind fun t11 =>
  if ¬ t11 = 2 then (
    X3_lookUp_J55 l0 l1 t9 5 0 m8
  ) else (
    X3_lookUp_J55 l0 l1 t9 5 1 m8
  )
def X3_lookUp (l0 : Nat) (l1 : Int) (l2 : Int) (m : Mem) : Option Mem :=
  if shK l0 = 3 + 10 then (
    (getR 3 4 l0 m).bind fun t1 =>
    (astI t1 3 l1 m).bind fun m2 =>
    (getR 3 4 l0 m2).bind fun t3 =>
    (astI t3 2 l2 m2).bind fun m4 =>
    (getR 3 4 l0 m4).bind fun t5 =>
    (getR 3 0 l0 m4).bind fun t6 =>
    (aldI t6 l1 m4).bind fun t7 =>
    if ¬ t7 = 1 then (
      X3_lookUp_J34 l0 l1 t5 4 0 m4
    ) else (
      X3_lookUp_J34 l0 l1 t5 4 1 m4
    )
  ) else none
-- DewBaron$Sums.isTold(I)Z
def X7_isTold (l0 : Nat) (l1 : Int) (m : Mem) : Option Int :=
  if shK l0 = 7 + 10 then (
    if l1 < 0 then (
      retZ 0
    ) else (
      if 2 ≤ l1 then (
        retZ 0
      ) else (
        (getR 7 4 l0 m).bind fun t1 =>
        (aldI t1 l1 m).bind fun t2 =>
        (getR 7 3 l0 m).bind fun t3 =>
        (aldI t3 l1 m).bind fun t4 =>
        if t2 ≤ t4 then (
          retZ 0
        ) else (
          retZ 1
        )
      )
    )
  ) else none
-- DewBaron$Sums.factAt([II)I
def X7_factAt (l0 : Nat) (l1 : Int) (m : Mem) : Option Int :=
  if l1 < 0 then (
    some 0
  ) else (
    (alen l0).bind fun t1 =>
    if t1 ≤ l1 then (
      some 0
    ) else (
      (aldI l0 l1 m).bind fun t2 =>
      some t2
    )
  )
-- java/lang/Math.floorDiv(JJ)J
def J9_floorDiv_f86c9 (l0 : Int) (l2 : Int) (m : Mem) : Option Int :=
  if l2 = 0 then none else
  if 0 ≤ (lcm (lxor l0 l2) 0) then (
    some (wL (Int.tdiv l0 l2))
  ) else (
    if (lcm (wL ((wL (Int.tdiv l0 l2)) * l2)) l0) = 0 then (
      some (wL (Int.tdiv l0 l2))
    ) else (
      some (wL ((wL (Int.tdiv l0 l2)) - 1))
    )
  )
-- java/lang/Math.floorMod(JJ)J
def J9_floorMod_f86c9 (l0 : Int) (l2 : Int) (m : Mem) : Option Int :=
  if l2 = 0 then none else
  if 0 ≤ (lcm (lxor l0 l2) 0) then (
    some (wL (Int.tmod l0 l2))
  ) else (
    if (lcm (wL (Int.tmod l0 l2)) 0) = 0 then (
      some (wL (Int.tmod l0 l2))
    ) else (
      some (wL ((wL (Int.tmod l0 l2)) + l2))
    )
  )
-- DewBaron$Sums.join(IJJ)J
def X7_join (l0 : Int) (l1 : Int) (l3 : Int) (m : Mem) : Option Int :=
  if l0 = (-101) then (
    some (max l1 l3)
  ) else
  if l0 = (-100) then (
    some (min l1 l3)
  ) else
  if l0 = (-47) then (
    if ¬ (lcm l3 0) = 0 then (
      (J9_floorDiv_f86c9 l1 l3 m).bind fun p3 =>
      some p3
    ) else (
      some 0
    )
  ) else
  if l0 = (-45) then (
    some (wL (l1 - l3))
  ) else
  if l0 = (-43) then (
    some (wL (l1 + l3))
  ) else
  if l0 = (-42) then (
    some (wL (l1 * l3))
  ) else
  if l0 = (-37) then (
    if ¬ (lcm l3 0) = 0 then (
      (J9_floorMod_f86c9 l1 l3 m).bind fun p9 =>
      some p9
    ) else (
      some 0
    )
  ) else
  some 0
-- DewBaron$Sums.worth(I[I)I
def X7_worth_J137 (N : Nat) (r20 : Nat → Int → Nat → Int → Int → Mem → Option (Int × Mem)) (l0 : Nat) (l1 : Int) (l2 : Nat) (l3 : Int) (l4 : Int) (m : Mem) : Option (Int × Mem) :=
  r20 l0 l1 l2 l3 (wI (l4 + 1)) m
def X7_worth_J76 (N : Nat) (r20 : Nat → Int → Nat → Int → Int → Mem → Option (Int × Mem)) (l0 : Nat) (l1 : Int) (l2 : Nat) (l3 : Int) (l4 : Int) (s0 : Nat) (s1 : Int) (s2 : Int) (m : Mem) : Option (Int × Mem) :=
  (astI s0 s1 s2 m).bind fun m18 =>
  X7_worth_J137 N r20 l0 l1 l2 (wI (l3 + 1)) l4 m18
def X7_worth_L20_b (N : Nat) (k143 : Nat → Int → Mem → Option (Int × Mem)) (r20 : Nat → Int → Nat → Int → Int → Mem → Option (Int × Mem)) (l0 : Nat) (l1 : Int) (l2 : Nat) (l3 : Int) (l4 : Int) (m : Mem) : Option (Int × Mem) :=
  (getR 7 4 l0 m).bind fun t4 =>
  (aldI t4 l1 m).bind fun t5 =>
  if t5 ≤ l4 then (
    k143 l0 l3 m
  ) else (
    (getR 7 0 l0 m).bind fun t6 =>
    (aldI t6 l4 m).bind fun t7 =>
    if t7 < (-10) then (
      if l3 < 2 then (
        X7_worth_J137 N r20 l0 l1 l2 l3 l4 m
      ) else (
        (getR 7 5 l0 m).bind fun t8 =>
        (aldI t8 (wI ((wI (l3 + (-1))) - 1)) m).bind fun t9 =>
        (getR 7 5 l0 m).bind fun t10 =>
        (aldI t10 (wI (l3 + (-1))) m).bind fun t11 =>
        (X7_join t7 t9 t11 m).bind fun p12 =>
        (getR 7 5 l0 m).bind fun t13 =>
        (astI t13 (wI ((wI (l3 + (-1))) - 1)) (wI (max (-1000000) (min p12 1000000))) m).bind fun m14 =>
        X7_worth_J137 N r20 l0 l1 l2 (wI (l3 + (-1))) l4 m14
      )
    ) else (
      if 64 ≤ l3 then (
        X7_worth_J137 N r20 l0 l1 l2 l3 l4 m
      ) else (
        (getR 7 5 l0 m).bind fun t16 =>
        if t7 < 0 then (
          (X7_factAt l2 (wI ((-1) - t7)) m).bind fun p17 =>
          X7_worth_J76 N r20 l0 l1 l2 l3 l4 t16 l3 p17 m
        ) else (
          X7_worth_J76 N r20 l0 l1 l2 l3 l4 t16 l3 t7 m
        )
      )
    )
  )
def X7_worth_L20 (N : Nat) (k143 : Nat → Int → Mem → Option (Int × Mem)) : Nat → Nat → Int → Nat → Int → Int → Mem → Option (Int × Mem)
  | 0 => fun _ _ _ _ _ _ => none
  | f + 1 => X7_worth_L20_b N k143 (X7_worth_L20 N k143 f)
def X7_worth (N : Nat) (l0 : Nat) (l1 : Int) (l2 : Nat) (m : Mem) : Option (Int × Mem) :=
  if shK l0 = 7 + 10 then (
    (X7_isTold l0 l1 m).bind fun p1 =>
    if ¬ p1 = 0 then (
      (getR 7 3 l0 m).bind fun t2 =>
      (aldI t2 l1 m).bind fun t3 =>
      X7_worth_L20 N (fun z23 z24 m25 =>
          if z24 ≤ 0 then (
            some (0, m25)
          ) else (
            (getR 7 5 z23 m25).bind fun t26 =>
            (aldI t26 0 m25).bind fun t27 =>
            some (t27, m25)
          )) N l0 l1 l2 0 t3 m
    ) else (
      some (0, m)
    )
  ) else none
-- DewBaron.within(III)I
def X10_within (l0 : Int) (l1 : Int) (l2 : Int) (m : Mem) : Option Int :=
  some (max l0 (min l1 l2))
-- DewBaron$Night.lie(LDewBaron$Plan;LDewBaron$Land;III)I
def X3_lie_L73_b (N : Nat) (r73 : Nat → Nat → Int → Int → Int → Int → Mem → Option (Int × Mem)) (l0 : Nat) (l1 : Nat) (l3 : Int) (l5 : Int) (l6 : Int) (l7 : Int) (m : Mem) : Option (Int × Mem) :=
  if 12 < l7 then (
    some (l6, m)
  ) else (
    (X3_coldIn l0 l3 l7 m).bind fun p14 =>
    (X3_lookUp l0 l7 p14 m).bind fun p15 =>
    (getR 3 4 l0 p15).bind fun t16 =>
    (astI t16 8 l6 p15).bind fun m17 =>
    (getR 3 5 l0 m17).bind fun t18 =>
    (aldR t18 l5 m17).bind fun t19 =>
    (getR 5 16 l1 m17).bind fun t20 =>
    (getR 3 4 l0 m17).bind fun t21 =>
    (X7_worth N t20 0 t21 m17).bind fun p22 =>
    (X10_within 0 p22.1 99 p22.2).bind fun p23 =>
    (astI t19 l7 p23 p22.2).bind fun m24 =>
    (getR 3 5 l0 m24).bind fun t25 =>
    (aldR t25 l5 m24).bind fun t26 =>
    (aldI t26 l7 m24).bind fun t27 =>
    (getR 3 4 l0 m24).bind fun t28 =>
    (astI t28 8 (wI (l6 + t27)) m24).bind fun m29 =>
    (getR 3 6 l0 m29).bind fun t30 =>
    (aldR t30 l5 m29).bind fun t31 =>
    (getR 5 16 l1 m29).bind fun t32 =>
    (getR 3 4 l0 m29).bind fun t33 =>
    (X7_worth N t32 1 t33 m29).bind fun p34 =>
    (X10_within 0 p34.1 (wI (l6 + t27)) p34.2).bind fun p35 =>
    (astI t31 l7 p35 p34.2).bind fun m36 =>
    (getR 3 6 l0 m36).bind fun t37 =>
    (aldR t37 l5 m36).bind fun t38 =>
    (aldI t38 l7 m36).bind fun t39 =>
    (getR 3 7 l0 m36).bind fun t40 =>
    (aldR t40 l5 m36).bind fun t41 =>
    (astI t41 l7 (wI ((wI (l6 + t27)) - t39)) m36).bind fun m42 =>
    r73 l0 l1 l3 l5 (wI ((wI (l6 + t27)) - t39)) (wI (l7 + 1)) m42
  )
def X3_lie_L73 (N : Nat) : Nat → Nat → Nat → Int → Int → Int → Int → Mem → Option (Int × Mem)
  | 0 => fun _ _ _ _ _ _ _ => none
  | f + 1 => X3_lie_L73_b N (X3_lie_L73 N f)
def X3_lie (N : Nat) (l0 : Nat) (l1 : Nat) (l2 : Nat) (l3 : Int) (l4 : Int) (l5 : Int) (m : Mem) : Option (Int × Mem) :=
  if shK l0 = 3 + 10 then (
    (X5_isCell l1 l3 m).bind fun p1 =>
    if p1 = 0 then (
      some (0, m)
    ) else (
      if l5 < 0 then (
        some (0, m)
      ) else (
        if l5 ≤ 10 then (
          (getR 3 4 l0 m).bind fun t2 =>
          (astI t2 9 l4 m).bind fun m3 =>
          (getR 3 4 l0 m3).bind fun t4 =>
          (X5_openness N l1 l2 l3 m3).bind fun p5 =>
          (astI t4 0 p5 m3).bind fun m6 =>
          (getR 3 4 l0 m6).bind fun t7 =>
          (getR 5 3 l1 m6).bind fun t8 =>
          (aldI t8 l3 m6).bind fun t9 =>
          (astI t7 1 t9 m6).bind fun m10 =>
          (getR 3 4 l0 m10).bind fun t11 =>
          (X5_housesBy N l1 l3 m10).bind fun p12 =>
          (astI t11 7 p12 m10).bind fun m13 =>
          X3_lie_L73 N N l0 l1 l3 l5 0 1 m13
        ) else (
          some (0, m)
        )
      )
    )
  ) else none
-- DewBaron$Plan.acrossOf(I)I
def X5_acrossOf (l0 : Nat) (l1 : Int) (m : Mem) : Option Int :=
  if shK l0 = 5 + 10 then (
    (getI 5 0 l0 m).bind fun t1 =>
    if t1 ≤ 0 then (
      some 0
    ) else (
      (getI 5 0 l0 m).bind fun t2 =>
      if t2 = 0 then none else
      some (wI (Int.tmod l1 t2))
    )
  ) else none
-- DewBaron$Plan.downOf(I)I
def X5_downOf (l0 : Nat) (l1 : Int) (m : Mem) : Option Int :=
  if shK l0 = 5 + 10 then (
    (getI 5 0 l0 m).bind fun t1 =>
    if t1 ≤ 0 then (
      some 0
    ) else (
      (getI 5 0 l0 m).bind fun t2 =>
      if t2 = 0 then none else
      some (wI (Int.tdiv l1 t2))
    )
  ) else none
-- DewBaron$Plan.steps(II)I
def X5_steps (l0 : Nat) (l1 : Int) (l2 : Int) (m : Mem) : Option Int :=
  if shK l0 = 5 + 10 then (
    (X5_acrossOf l0 l1 m).bind fun p1 =>
    (X5_acrossOf l0 l2 m).bind fun p2 =>
    (X5_downOf l0 l1 m).bind fun p3 =>
    (X5_downOf l0 l2 m).bind fun p4 =>
    some (wI ((wI ((Int.natAbs (wI (p1 - p2)) : Nat) : Int)) + (wI ((Int.natAbs (wI (p3 - p4)) : Nat) : Int))))
  ) else none
-- DewBaron$Plan.nearest(I)I
def X5_nearest_J43 (N : Nat) (r8 : Nat → Int → Int → Int → Int → Option Int) (l0 : Nat) (l1 : Int) (l2 : Int) (l3 : Int) (l4 : Int) (m : Mem) : Option Int :=
  r8 l0 l1 l2 l3 (wI (l4 + 1))
def X5_nearest_L8_b (N : Nat) (m : Mem) (r8 : Nat → Int → Int → Int → Int → Option Int) (l0 : Nat) (l1 : Int) (l2 : Int) (l3 : Int) (l4 : Int) : Option Int :=
  (getI 5 6 l0 m).bind fun t1 =>
  if t1 ≤ l4 then (
    some l2
  ) else (
    (getR 5 7 l0 m).bind fun t2 =>
    (aldI t2 l4 m).bind fun t3 =>
    (X5_steps l0 l1 t3 m).bind fun p4 =>
    if l3 ≤ p4 then (
      X5_nearest_J43 N r8 l0 l1 l2 l3 l4 m
    ) else (
      X5_nearest_J43 N r8 l0 l1 l4 p4 l4 m
    )
  )
def X5_nearest_L8 (N : Nat) (m : Mem) : Nat → Nat → Int → Int → Int → Int → Option Int
  | 0 => fun _ _ _ _ _ => none
  | f + 1 => X5_nearest_L8_b N m (X5_nearest_L8 N m f)
def X5_nearest (N : Nat) (l0 : Nat) (l1 : Int) (m : Mem) : Option Int :=
  if shK l0 = 5 + 10 then (
    X5_nearest_L8 N m N l0 l1 (-1) 42 0
  ) else none
-- DewBaron$Plan.isCistern(I)Z
def X5_isCistern (l0 : Nat) (l1 : Int) (m : Mem) : Option Int :=
  if shK l0 = 5 + 10 then (
    if l1 < 0 then (
      retZ 0
    ) else (
      (getI 5 6 l0 m).bind fun t1 =>
      if t1 ≤ l1 then (
        retZ 0
      ) else (
        retZ 1
      )
    )
  ) else none
-- DewBaron$Night.pass(LDewBaron$Plan;LDewBaron$Land;[I)V
def X3_pass_J104 (N : Nat) (r37 : Nat → Nat → Nat → Int → Mem → Option Mem) (l0 : Nat) (l1 : Nat) (l2 : Nat) (l4 : Int) (m : Mem) : Option Mem :=
  r37 l0 l1 l2 (wI (l4 + 1)) m
def X3_pass_L37_b (N : Nat) (r37 : Nat → Nat → Nat → Int → Mem → Option Mem) (l0 : Nat) (l1 : Nat) (l2 : Nat) (l4 : Int) (m : Mem) : Option Mem :=
  (getI 5 9 l1 m).bind fun t9 =>
  if t9 ≤ l4 then (
    some m
  ) else (
    (getR 1 1 l2 m).bind fun t10 =>
    (aldI t10 l4 m).bind fun t11 =>
    (getR 5 10 l1 m).bind fun t12 =>
    (aldI t12 l4 m).bind fun t13 =>
    (X3_lie N l0 l1 l2 t11 t13 l4 m).bind fun p14 =>
    (getR 1 1 l2 p14.2).bind fun t15 =>
    (aldI t15 l4 p14.2).bind fun t16 =>
    (X5_nearest N l1 t16 p14.2).bind fun p17 =>
    (X5_isCistern l1 p17 p14.2).bind fun p18 =>
    if p18 = 0 then (
      X3_pass_J104 N r37 l0 l1 l2 l4 p14.2
    ) else (
      (getR 3 8 l0 p14.2).bind fun t19 =>
      (aldI t19 p17 p14.2).bind fun t20 =>
      (astI t19 p17 (wI (t20 + p14.1)) p14.2).bind fun m21 =>
      X3_pass_J104 N r37 l0 l1 l2 l4 m21
    )
  )
def X3_pass_L37 (N : Nat) : Nat → Nat → Nat → Nat → Int → Mem → Option Mem
  | 0 => fun _ _ _ _ _ => none
  | f + 1 => X3_pass_L37_b N (X3_pass_L37 N f)
def X3_pass (N : Nat) (l0 : Nat) (l1 : Nat) (l2 : Nat) (l3 : Nat) (m : Mem) : Option Mem :=
  if shK l0 = 3 + 10 then (
    (getR 3 0 l0 m).bind fun t1 =>
    (alen l3).bind fun t2 =>
    (getR 3 0 l0 m).bind fun t3 =>
    (alen t3).bind fun t4 =>
    (acopy l3 0 t1 0 (min t2 t4) m).bind fun m5 =>
    (X3_chill N l0 l1 l2 m5).bind fun p6 =>
    (getR 3 8 l0 p6).bind fun t7 =>
    (J7_fill_53178 N t7 0 p6).bind fun p8 =>
    X3_pass_L37 N N l0 l1 l2 0 p8
  ) else none
-- DewBaron.asTold()LDewBaron$Night;
def X10_asTold_J34 (N : Nat) (l0 : Nat) (m : Mem) : Option (Nat × Mem) :=
  (getR 10 9 l0 m).bind fun t2 =>
  some (t2, m)
def X10_asTold (N : Nat) (l0 : Nat) (m : Mem) : Option (Nat × Mem) :=
  if shK l0 = 10 + 10 then (
    (getI 10 12 l0 m).bind fun t1 =>
    if t1 = 0 then (
      X10_asTold_J34 N l0 m
    ) else (
      (getR 10 9 l0 m).bind fun t3 =>
      (getR 10 3 l0 m).bind fun t4 =>
      (getR 10 5 l0 m).bind fun t5 =>
      (getR 10 3 l0 m).bind fun t6 =>
      (getR 5 15 t6 m).bind fun t7 =>
      (X3_pass N t3 t4 t5 t7 m).bind fun p8 =>
      (putZ 10 12 l0 0 p8).bind fun m9 =>
      X10_asTold_J34 N l0 m9
    )
  ) else none
-- DewBaron$Night.dawn(I)I
def X3_dawn (l0 : Nat) (l1 : Int) (m : Mem) : Option Int :=
  if shK l0 = 3 + 10 then (
    if l1 < 0 then (
      some 0
    ) else (
      if 10 ≤ l1 then (
        some 0
      ) else (
        (getR 3 7 l0 m).bind fun t1 =>
        (aldR t1 l1 m).bind fun t2 =>
        (aldI t2 12 m).bind fun t3 =>
        some t3
      )
    )
  ) else none
-- DewBaron$Night.allByDawn(LDewBaron$Plan;)I
def X3_allByDawn_L4_b (N : Nat) (m : Mem) (r4 : Nat → Nat → Int → Int → Option Int) (l0 : Nat) (l1 : Nat) (l2 : Int) (l3 : Int) : Option Int :=
  (getI 5 9 l1 m).bind fun t1 =>
  if t1 ≤ l3 then (
    some l2
  ) else (
    (X3_dawn l0 l3 m).bind fun p2 =>
    r4 l0 l1 (wI (l2 + p2)) (wI (l3 + 1))
  )
def X3_allByDawn_L4 (N : Nat) (m : Mem) : Nat → Nat → Nat → Int → Int → Option Int
  | 0 => fun _ _ _ _ => none
  | f + 1 => X3_allByDawn_L4_b N m (X3_allByDawn_L4 N m f)
def X3_allByDawn (N : Nat) (l0 : Nat) (l1 : Nat) (m : Mem) : Option Int :=
  if shK l0 = 3 + 10 then (
    X3_allByDawn_L4 N m N l0 l1 0 0
  ) else none
-- DewBaron$Plan.hasCistern(I)Z
def X5_hasCistern_L2_b (N : Nat) (m : Mem) (r2 : Nat → Int → Int → Option Int) (l0 : Nat) (l1 : Int) (l2 : Int) : Option Int :=
  (getI 5 6 l0 m).bind fun t1 =>
  if t1 ≤ l2 then (
    retZ 0
  ) else (
    (getR 5 7 l0 m).bind fun t2 =>
    (aldI t2 l2 m).bind fun t3 =>
    if ¬ t3 = l1 then (
      r2 l0 l1 (wI (l2 + 1))
    ) else (
      retZ 1
    )
  )
def X5_hasCistern_L2 (N : Nat) (m : Mem) : Nat → Nat → Int → Int → Option Int
  | 0 => fun _ _ _ => none
  | f + 1 => X5_hasCistern_L2_b N m (X5_hasCistern_L2 N m f)
def X5_hasCistern (N : Nat) (l0 : Nat) (l1 : Int) (m : Mem) : Option Int :=
  if shK l0 = 5 + 10 then (
    X5_hasCistern_L2 N m N l0 l1 0
  ) else none
-- DewBaron$Plan.contents(LDewBaron$Land;I)I
def X5_contents_L34_b (N : Nat) (k60 : Nat → Int → Option Int) (m : Mem) (r34 : Nat → Nat → Int → Int → Option Int) (l0 : Nat) (l1 : Nat) (l2 : Int) (l3 : Int) : Option Int :=
  (getI 5 9 l0 m).bind fun t5 =>
  if t5 ≤ l3 then (
    k60 l0 l2
  ) else (
    (getR 1 1 l1 m).bind fun t6 =>
    (aldI t6 l3 m).bind fun t7 =>
    if ¬ t7 = l2 then (
      r34 l0 l1 l2 (wI (l3 + 1))
    ) else (
      some 3
    )
  )
def X5_contents_L34 (N : Nat) (k60 : Nat → Int → Option Int) (m : Mem) : Nat → Nat → Nat → Int → Int → Option Int
  | 0 => fun _ _ _ _ => none
  | f + 1 => X5_contents_L34_b N k60 m (X5_contents_L34 N k60 m f)
def X5_contents (N : Nat) (l0 : Nat) (l1 : Nat) (l2 : Int) (m : Mem) : Option Int :=
  if shK l0 = 5 + 10 then (
    (X1_hasWall l1 l2 m).bind fun p1 =>
    if p1 = 0 then (
      (X5_isCell l0 l2 m).bind fun p2 =>
      if ¬ p2 = 0 then (
        (getR 5 4 l0 m).bind fun t3 =>
        (aldI t3 l2 m).bind fun t4 =>
        if ¬ t4 = 1 then (
          X5_contents_L34 N (fun z10 z11 =>
              (X5_hasCistern N z10 z11 m).bind fun p12 =>
              if p12 = 0 then (
                some 0
              ) else (
                some 4
              )) m N l0 l1 l2 0
        ) else (
          some 2
        )
      ) else (
        some 0
      )
    ) else (
      some 1
    )
  ) else none
-- DewBaron$Plan.isFree(LDewBaron$Land;I)Z
def X5_isFree (N : Nat) (l0 : Nat) (l1 : Nat) (l2 : Int) (m : Mem) : Option Int :=
  if shK l0 = 5 + 10 then (
    (X5_isCell l0 l2 m).bind fun p1 =>
    if p1 = 0 then (
      retZ 0
    ) else (
      (X5_contents N l0 l1 l2 m).bind fun p2 =>
      if ¬ p2 = 0 then (
        retZ 0
      ) else (
        retZ 1
      )
    )
  ) else none
-- DewBaron$Hanging.canHang(LDewBaron$Plan;LDewBaron$Land;II)Z
def X0_canHang_J24 (N : Nat) (m : Mem) : Option Int :=
  retZ 1
def X0_canHang (N : Nat) (l0 : Nat) (l1 : Nat) (l2 : Int) (l3 : Int) (m : Mem) : Option Int :=
  (getR 1 1 l1 m).bind fun t1 =>
  (getR 5 13 l0 m).bind fun t2 =>
  (aldI t2 l2 m).bind fun t3 =>
  (aldI t1 t3 m).bind fun t4 =>
  if t4 = l3 then (
    X0_canHang_J24 N m
  ) else (
    (X5_isFree N l0 l1 l3 m).bind fun p5 =>
    if p5 = 0 then (
      retZ 0
    ) else (
      X0_canHang_J24 N m
    )
  )
-- DewBaron$Hanging.hangOn(III)V
def X0_hangOn_J61 (l0 : Nat) (l1 : Int) (l2 : Int) (m : Mem) : Option Mem :=
  (getR 0 6 l0 m).bind fun t3 =>
  (astI t3 l1 l2 m).bind fun m4 =>
  some m4
def X0_hangOn (l0 : Nat) (l1 : Int) (l2 : Int) (l3 : Int) (m : Mem) : Option Mem :=
  if shK l0 = 0 + 10 then (
    (getR 0 2 l0 m).bind fun t1 =>
    (aldI t1 l2 m).bind fun t2 =>
    if t2 < 0 then (
      X0_hangOn_J61 l0 l1 l2 m
    ) else (
      (getI 0 5 l0 m).bind fun t5 =>
      if t5 ≤ t2 then (
        X0_hangOn_J61 l0 l1 l2 m
      ) else (
        (getR 0 3 l0 m).bind fun t6 =>
        (aldI t6 t2 m).bind fun t7 =>
        (getR 0 1 l0 m).bind fun t8 =>
        (aldR t8 l1 m).bind fun t9 =>
        (aldI t9 l2 m).bind fun t10 =>
        (astI t6 t2 (wI (t7 + (wI (l3 * t10)))) m).bind fun m11 =>
        (getI 0 4 l0 m11).bind fun t12 =>
        (getR 0 1 l0 m11).bind fun t13 =>
        (aldR t13 l1 m11).bind fun t14 =>
        (aldI t14 l2 m11).bind fun t15 =>
        (putI 0 4 l0 (wI (t12 + (wI (l3 * t15)))) m11).bind fun m16 =>
        X0_hangOn_J61 l0 l1 l2 m16
      )
    )
  ) else none
-- DewBaron$Hanging.prepare(LDewBaron$Plan;LDewBaron$Land;LDewBaron$Night;I)V
def X0_prepare_L38_b (N : Nat) (k66 : Nat → Nat → Nat → Nat → Int → Mem → Option Mem) (r38 : Nat → Nat → Nat → Nat → Int → Int → Mem → Option Mem) (l0 : Nat) (l1 : Nat) (l2 : Nat) (l3 : Nat) (l4 : Int) (l5 : Int) (m : Mem) : Option Mem :=
  (X5_cells l1 m).bind fun p10 =>
  if p10 ≤ l5 then (
    k66 l0 l1 l2 l3 l4 m
  ) else (
    (getR 0 2 l0 m).bind fun t11 =>
    (X5_nearest N l1 l5 m).bind fun p12 =>
    (astI t11 l5 p12 m).bind fun m13 =>
    r38 l0 l1 l2 l3 l4 (wI (l5 + 1)) m13
  )
def X0_prepare_L38 (N : Nat) (k66 : Nat → Nat → Nat → Nat → Int → Mem → Option Mem) : Nat → Nat → Nat → Nat → Nat → Int → Int → Mem → Option Mem
  | 0 => fun _ _ _ _ _ _ _ => none
  | f + 1 => X0_prepare_L38_b N k66 (X0_prepare_L38 N k66 f)
def X0_prepare_J143 (N : Nat) (r88 : Nat → Nat → Nat → Nat → Int → Int → Int → Int → Mem → Option Mem) (l0 : Nat) (l1 : Nat) (l2 : Nat) (l3 : Nat) (l4 : Int) (l5 : Int) (l6 : Int) (l7 : Int) (s0 : Nat) (s1 : Int) (s2 : Int) (m : Mem) : Option Mem :=
  (astI s0 s1 s2 m).bind fun m27 =>
  r88 l0 l1 l2 l3 l4 l5 l6 (wI (l7 + 1)) m27
def X0_prepare_L88_b (N : Nat) (k150 : Nat → Nat → Nat → Nat → Int → Int → Int → Mem → Option Mem) (r88 : Nat → Nat → Nat → Nat → Int → Int → Int → Int → Mem → Option Mem) (l0 : Nat) (l1 : Nat) (l2 : Nat) (l3 : Nat) (l4 : Int) (l5 : Int) (l6 : Int) (l7 : Int) (m : Mem) : Option Mem :=
  (X5_cells l1 m).bind fun p23 =>
  if p23 ≤ l7 then (
    k150 l0 l1 l2 l3 l4 l5 l6 m
  ) else (
    (X0_canHang N l1 l2 l5 l7 m).bind fun p24 =>
    (getR 0 1 l0 m).bind fun t25 =>
    (aldR t25 l5 m).bind fun t26 =>
    if p24 = 0 then (
      X0_prepare_J143 N r88 l0 l1 l2 l3 l4 l5 l6 l7 t26 l7 0 m
    ) else (
      (getR 5 10 l1 m).bind fun t28 =>
      (aldI t28 l6 m).bind fun t29 =>
      (X3_lie N l3 l1 l2 l7 t29 10 m).bind fun p30 =>
      X0_prepare_J143 N r88 l0 l1 l2 l3 l4 l5 l6 l7 t26 l7 p30.1 p30.2
    )
  )
def X0_prepare_L88 (N : Nat) (k150 : Nat → Nat → Nat → Nat → Int → Int → Int → Mem → Option Mem) : Nat → Nat → Nat → Nat → Nat → Int → Int → Int → Int → Mem → Option Mem
  | 0 => fun _ _ _ _ _ _ _ _ _ => none
  | f + 1 => X0_prepare_L88_b N k150 (X0_prepare_L88 N k150 f)
def X0_prepare_L69_b (N : Nat) (r69 : Nat → Nat → Nat → Nat → Int → Int → Mem → Option Mem) (l0 : Nat) (l1 : Nat) (l2 : Nat) (l3 : Nat) (l4 : Int) (l5 : Int) (m : Mem) : Option Mem :=
  if l4 ≤ l5 then (
    some m
  ) else (
    (getR 5 13 l1 m).bind fun t21 =>
    (aldI t21 l5 m).bind fun t22 =>
    X0_prepare_L88 N (fun z33 z34 z35 z36 z37 z38 z39 m40 =>
        (getR 1 1 z35 m40).bind fun t41 =>
        (aldI t41 z39 m40).bind fun t42 =>
        (X0_hangOn z33 z38 t42 (-1) m40).bind fun p43 =>
        r69 z33 z34 z35 z36 z37 (wI (z38 + 1)) p43) N l0 l1 l2 l3 l4 l5 t22 0 m
  )
def X0_prepare_L69 (N : Nat) : Nat → Nat → Nat → Nat → Nat → Int → Int → Mem → Option Mem
  | 0 => fun _ _ _ _ _ _ _ => none
  | f + 1 => X0_prepare_L69_b N (X0_prepare_L69 N f)
def X0_prepare (N : Nat) (l0 : Nat) (l1 : Nat) (l2 : Nat) (l3 : Nat) (l4 : Int) (m : Mem) : Option Mem :=
  if shK l0 = 0 + 10 then (
    (getI 5 6 l1 m).bind fun t1 =>
    (putI 0 5 l0 t1 m).bind fun m2 =>
    (getR 3 8 l3 m2).bind fun t3 =>
    (getR 0 3 l0 m2).bind fun t4 =>
    (getR 0 3 l0 m2).bind fun t5 =>
    (alen t5).bind fun t6 =>
    (acopy t3 0 t4 0 t6 m2).bind fun m7 =>
    (X3_allByDawn N l3 l1 m7).bind fun p8 =>
    (putI 0 4 l0 p8 m7).bind fun m9 =>
    X0_prepare_L38 N (fun z15 z16 z17 z18 z19 m20 =>
        X0_prepare_L69 N N z15 z16 z17 z18 z19 0 m20) N l0 l1 l2 l3 l4 0 m9
  ) else none
-- DewBaron$Hanging.spread()I
def X0_spread_L16_b (N : Nat) (k52 : Int → Int → Option Int) (m : Mem) (r16 : Nat → Int → Int → Int → Option Int) (l0 : Nat) (l1 : Int) (l2 : Int) (l3 : Int) : Option Int :=
  (getI 0 5 l0 m).bind fun t5 =>
  if t5 ≤ l3 then (
    k52 l1 l2
  ) else (
    (getR 0 3 l0 m).bind fun t6 =>
    (aldI t6 l3 m).bind fun t7 =>
    (getR 0 3 l0 m).bind fun t8 =>
    (aldI t8 l3 m).bind fun t9 =>
    r16 l0 (max l1 t7) (min l2 t9) (wI (l3 + 1))
  )
def X0_spread_L16 (N : Nat) (k52 : Int → Int → Option Int) (m : Mem) : Nat → Nat → Int → Int → Int → Option Int
  | 0 => fun _ _ _ _ => none
  | f + 1 => X0_spread_L16_b N k52 m (X0_spread_L16 N k52 m f)
def X0_spread (N : Nat) (l0 : Nat) (m : Mem) : Option Int :=
  if shK l0 = 0 + 10 then (
    (getR 0 3 l0 m).bind fun t1 =>
    (aldI t1 0 m).bind fun t2 =>
    (getR 0 3 l0 m).bind fun t3 =>
    (aldI t3 0 m).bind fun t4 =>
    X0_spread_L16 N (fun z11 z12 =>
        some (wI (z11 - z12))) m N l0 t2 t4 1
  ) else none
-- DewBaron$Hanging.judge()V
def X0_judge_J45 (N : Nat) (l0 : Nat) (l1 : Int) (s0 : Int) (m : Mem) : Option Mem :=
  if s0 = 0 then (
    some m
  ) else (
    (putI 0 8 l0 l1 m).bind fun m3 =>
    (getI 0 4 l0 m3).bind fun t4 =>
    (putI 0 9 l0 t4 m3).bind fun m5 =>
    (getR 0 6 l0 m5).bind fun t6 =>
    (getR 0 7 l0 m5).bind fun t7 =>
    (acopy t6 0 t7 0 2 m5).bind fun m8 =>
    some m8
  )
def X0_judge_J40 (N : Nat) (l0 : Nat) (l1 : Int) (m : Mem) : Option Mem :=
  X0_judge_J45 N l0 l1 1 m
def X0_judge_J44 (N : Nat) (l0 : Nat) (l1 : Int) (m : Mem) : Option Mem :=
  X0_judge_J45 N l0 l1 0 m
def X0_judge (N : Nat) (l0 : Nat) (m : Mem) : Option Mem :=
  if shK l0 = 0 + 10 then (
    (X0_spread N l0 m).bind fun p1 =>
    (getI 0 8 l0 m).bind fun t2 =>
    if t2 = (-1) then (
      X0_judge_J40 N l0 p1 m
    ) else (
      (getI 0 8 l0 m).bind fun t10 =>
      if p1 < t10 then (
        X0_judge_J40 N l0 p1 m
      ) else (
        (getI 0 8 l0 m).bind fun t11 =>
        if ¬ p1 = t11 then (
          X0_judge_J44 N l0 p1 m
        ) else (
          (getI 0 4 l0 m).bind fun t12 =>
          (getI 0 9 l0 m).bind fun t13 =>
          if t12 ≤ t13 then (
            X0_judge_J44 N l0 p1 m
          ) else (
            X0_judge_J40 N l0 p1 m
          )
        )
      )
    )
  ) else none
-- DewBaron$Hanging.tryRest(LDewBaron$Plan;LDewBaron$Land;I)V
def X0_tryRest_J64 (N : Nat) (r13 : Nat → Nat → Nat → Int → Mem → Option Mem) (l0 : Nat) (l1 : Nat) (l2 : Nat) (l4 : Int) (m : Mem) : Option Mem :=
  r13 l0 l1 l2 (wI (l4 + 1)) m
def X0_tryRest_L13_b (N : Nat) (r13 : Nat → Nat → Nat → Int → Mem → Option Mem) (l0 : Nat) (l1 : Nat) (l2 : Nat) (l4 : Int) (m : Mem) : Option Mem :=
  (X5_cells l1 m).bind fun p1 =>
  if p1 ≤ l4 then (
    some m
  ) else (
    (getR 0 6 l0 m).bind fun t2 =>
    (aldI t2 0 m).bind fun t3 =>
    if l4 = t3 then (
      X0_tryRest_J64 N r13 l0 l1 l2 l4 m
    ) else (
      (X0_canHang N l1 l2 1 l4 m).bind fun p4 =>
      if p4 = 0 then (
        X0_tryRest_J64 N r13 l0 l1 l2 l4 m
      ) else (
        (X0_hangOn l0 1 l4 1 m).bind fun p5 =>
        (X0_judge N l0 p5).bind fun p6 =>
        (X0_hangOn l0 1 l4 (-1) p6).bind fun p7 =>
        X0_tryRest_J64 N r13 l0 l1 l2 l4 p7
      )
    )
  )
def X0_tryRest_L13 (N : Nat) : Nat → Nat → Nat → Nat → Int → Mem → Option Mem
  | 0 => fun _ _ _ _ _ => none
  | f + 1 => X0_tryRest_L13_b N (X0_tryRest_L13 N f)
def X0_tryRest (N : Nat) (l0 : Nat) (l1 : Nat) (l2 : Nat) (l3 : Int) (m : Mem) : Option Mem :=
  if shK l0 = 0 + 10 then (
    if ¬ l3 = 1 then (
      X0_tryRest_L13 N N l0 l1 l2 0 m
    ) else (
      (X0_judge N l0 m).bind fun p11 =>
      some p11
    )
  ) else none
-- DewBaron$Hanging.find(LDewBaron$Plan;LDewBaron$Land;LDewBaron$Night;I)V
def X0_find_J92 (N : Nat) (r48 : Nat → Nat → Nat → Int → Int → Mem → Option Mem) (l0 : Nat) (l1 : Nat) (l2 : Nat) (l4 : Int) (l5 : Int) (m : Mem) : Option Mem :=
  r48 l0 l1 l2 l4 (wI (l5 + 1)) m
def X0_find_L48_b (N : Nat) (k98 : Nat → Int → Mem → Option Mem) (r48 : Nat → Nat → Nat → Int → Int → Mem → Option Mem) (l0 : Nat) (l1 : Nat) (l2 : Nat) (l4 : Int) (l5 : Int) (m : Mem) : Option Mem :=
  (X5_cells l1 m).bind fun p5 =>
  if p5 ≤ l5 then (
    k98 l0 l4 m
  ) else (
    (X0_canHang N l1 l2 0 l5 m).bind fun p6 =>
    if p6 = 0 then (
      X0_find_J92 N r48 l0 l1 l2 l4 l5 m
    ) else (
      (X0_hangOn l0 0 l5 1 m).bind fun p7 =>
      (X0_tryRest N l0 l1 l2 l4 p7).bind fun p8 =>
      (X0_hangOn l0 0 l5 (-1) p8).bind fun p9 =>
      X0_find_J92 N r48 l0 l1 l2 l4 l5 p9
    )
  )
def X0_find_L48 (N : Nat) (k98 : Nat → Int → Mem → Option Mem) : Nat → Nat → Nat → Nat → Int → Int → Mem → Option Mem
  | 0 => fun _ _ _ _ _ _ => none
  | f + 1 => X0_find_L48_b N k98 (X0_find_L48 N k98 f)
def X0_find (N : Nat) (l0 : Nat) (l1 : Nat) (l2 : Nat) (l3 : Nat) (l4 : Int) (m : Mem) : Option Mem :=
  if shK l0 = 0 + 10 then (
    (getI 0 0 l0 m).bind fun t1 =>
    if t1 = l4 then (
      some m
    ) else (
      if l4 < 1 then (
        some m
      ) else (
        if 2 < l4 then (
          some m
        ) else (
          (getI 5 12 l1 m).bind fun t2 =>
          if l4 ≤ t2 then (
            (X0_prepare N l0 l1 l2 l3 l4 m).bind fun p3 =>
            (putI 0 8 l0 (-1) p3).bind fun m4 =>
            X0_find_L48 N (fun z12 z13 m14 =>
                (putI 0 0 z12 z13 m14).bind fun m15 =>
                some m15) N l0 l1 l2 l4 0 m4
          ) else (
            some m
          )
        )
      )
    )
  ) else none
-- DewBaron$Hanging.bestSpot(I)I
def X0_bestSpot (l0 : Nat) (l1 : Int) (m : Mem) : Option Int :=
  if shK l0 = 0 + 10 then (
    if l1 < 0 then (
      some (-1)
    ) else (
      if 2 ≤ l1 then (
        some (-1)
      ) else (
        (getR 0 7 l0 m).bind fun t1 =>
        (aldI t1 l1 m).bind fun t2 =>
        some t2
      )
    )
  ) else none
-- DewBaron.alike(II)I
def X10_alike_J55 (N : Nat) (l0 : Nat) (l1 : Int) (l2 : Int) (m : Mem) : Option (Int × Mem) :=
  (getR 10 14 l0 m).bind fun t5 =>
  (getR 10 3 l0 m).bind fun t6 =>
  (getR 10 5 l0 m).bind fun t7 =>
  (X10_asTold N l0 m).bind fun p8 =>
  (X0_find N t5 t6 t7 p8.1 l1 p8.2).bind fun p9 =>
  if ¬ l2 = (-1) then (
    if ¬ l2 = 20 then (
      (getR 10 14 l0 p9).bind fun t10 =>
      (X0_bestSpot t10 l2 p9).bind fun p11 =>
      some (p11, p9)
    ) else (
      (getR 10 14 l0 p9).bind fun t12 =>
      (getI 0 9 t12 p9).bind fun t13 =>
      some (t13, p9)
    )
  ) else (
    (getR 10 14 l0 p9).bind fun t15 =>
    (getI 0 8 t15 p9).bind fun t16 =>
    some (t16, p9)
  )
def X10_alike (N : Nat) (l0 : Nat) (l1 : Int) (l2 : Int) (m : Mem) : Option (Int × Mem) :=
  if shK l0 = 10 + 10 then (
    if l1 < 1 then (
      some ((-1), m)
    ) else (
      if 2 < l1 then (
        some ((-1), m)
      ) else (
        (getR 10 3 l0 m).bind fun t1 =>
        (getI 5 12 t1 m).bind fun t2 =>
        if t2 < l1 then (
          some ((-1), m)
        ) else (
          (getR 10 3 l0 m).bind fun t3 =>
          (getI 5 6 t3 m).bind fun t4 =>
          if ¬ t4 = 0 then (
            if l2 = (-1) then (
              X10_alike_J55 N l0 l1 l2 m
            ) else (
              if l2 = 20 then (
                X10_alike_J55 N l0 l1 l2 m
              ) else (
                if l2 < 0 then (
                  some ((-1), m)
                ) else (
                  if l2 < l1 then (
                    X10_alike_J55 N l0 l1 l2 m
                  ) else (
                    some ((-1), m)
                  )
                )
              )
            )
          ) else (
            some ((-1), m)
          )
        )
      )
    )
  ) else none
-- DewBaron$Land.copyFrom(LDewBaron$Land;)V
def X1_copyFrom (l0 : Nat) (l1 : Nat) (m : Mem) : Option Mem :=
  if shK l0 = 1 + 10 then (
    (getR 1 0 l1 m).bind fun t1 =>
    (getR 1 0 l0 m).bind fun t2 =>
    (getR 1 0 l0 m).bind fun t3 =>
    (alen t3).bind fun t4 =>
    (acopy t1 0 t2 0 t4 m).bind fun m5 =>
    (getR 1 1 l1 m5).bind fun t6 =>
    (getR 1 1 l0 m5).bind fun t7 =>
    (getR 1 1 l0 m5).bind fun t8 =>
    (alen t8).bind fun t9 =>
    (acopy t6 0 t7 0 t9 m5).bind fun m10 =>
    (getR 1 2 l1 m10).bind fun t11 =>
    (getR 1 2 l0 m10).bind fun t12 =>
    (getR 1 2 l0 m10).bind fun t13 =>
    (alen t13).bind fun t14 =>
    (acopy t11 0 t12 0 t14 m10).bind fun m15 =>
    (getI 1 3 l1 m15).bind fun t16 =>
    (putI 1 3 l0 t16 m15).bind fun m17 =>
    some m17
  ) else none
-- DewBaron.passWithout(I)V
def X10_passWithout_J32 (N : Nat) (l0 : Nat) (m : Mem) : Option Mem :=
  (getR 10 10 l0 m).bind fun t6 =>
  (getR 10 3 l0 m).bind fun t7 =>
  (getR 10 6 l0 m).bind fun t8 =>
  (getR 10 3 l0 m).bind fun t9 =>
  (getR 5 15 t9 m).bind fun t10 =>
  (X3_pass N t6 t7 t8 t10 m).bind fun p11 =>
  some p11
def X10_passWithout (N : Nat) (l0 : Nat) (l1 : Int) (m : Mem) : Option Mem :=
  if shK l0 = 10 + 10 then (
    (getR 10 6 l0 m).bind fun t1 =>
    (getR 10 5 l0 m).bind fun t2 =>
    (X1_copyFrom t1 t2 m).bind fun p3 =>
    (getR 10 6 l0 p3).bind fun t4 =>
    (X1_hasWall t4 l1 p3).bind fun p5 =>
    if p5 = 0 then (
      X10_passWithout_J32 N l0 p3
    ) else (
      (getR 10 6 l0 p3).bind fun t12 =>
      (getR 1 0 t12 p3).bind fun t13 =>
      (astI t13 l1 0 p3).bind fun m14 =>
      X10_passWithout_J32 N l0 m14
    )
  ) else none
-- DewBaron.gain(LDewBaron$Night;I)I
def X10_gain (l0 : Nat) (l1 : Nat) (l2 : Int) (m : Mem) : Option Int :=
  if shK l0 = 10 + 10 then (
    (getR 10 3 l0 m).bind fun t1 =>
    (X5_isCistern t1 l2 m).bind fun p2 =>
    if p2 = 0 then (
      some 0
    ) else (
      (getR 10 10 l0 m).bind fun t3 =>
      (getR 3 8 t3 m).bind fun t4 =>
      (aldI t4 l2 m).bind fun t5 =>
      (getR 3 8 l1 m).bind fun t6 =>
      (aldI t6 l2 m).bind fun t7 =>
      some (wI (t5 - t7))
    )
  ) else none
-- DewBaron.best(I)I
def X10_best_J86 (N : Nat) (r26 : Nat → Int → Nat → Int → Int → Int → Mem → Option (Int × Mem)) (l0 : Nat) (l1 : Int) (l2 : Nat) (l3 : Int) (l4 : Int) (l5 : Int) (m : Mem) : Option (Int × Mem) :=
  r26 l0 l1 l2 l3 l4 (wI (l5 + 1)) m
def X10_best_J77 (N : Nat) (r26 : Nat → Int → Nat → Int → Int → Int → Mem → Option (Int × Mem)) (l0 : Nat) (l1 : Int) (l2 : Nat) (l3 : Int) (l5 : Int) (l6 : Int) (s0 : Int) (m : Mem) : Option (Int × Mem) :=
  X10_best_J86 N r26 l0 l1 l2 (max l6 l3) s0 l5 m
def X10_best_L26_b (N : Nat) (r26 : Nat → Int → Nat → Int → Int → Int → Mem → Option (Int × Mem)) (l0 : Nat) (l1 : Int) (l2 : Nat) (l3 : Int) (l4 : Int) (l5 : Int) (m : Mem) : Option (Int × Mem) :=
  (getR 10 3 l0 m).bind fun t4 =>
  (X5_cells t4 m).bind fun p5 =>
  if p5 ≤ l5 then (
    some (l4, m)
  ) else (
    (getR 10 5 l0 m).bind fun t6 =>
    (X1_hasWall t6 l5 m).bind fun p7 =>
    if p7 = 0 then (
      X10_best_J86 N r26 l0 l1 l2 l3 l4 l5 m
    ) else (
      (X10_passWithout N l0 l5 m).bind fun p8 =>
      (X10_gain l0 l2 l1 p8).bind fun p9 =>
      if p9 ≤ l3 then (
        X10_best_J77 N r26 l0 l1 l2 l3 l5 p9 l4 p8
      ) else (
        X10_best_J77 N r26 l0 l1 l2 l3 l5 p9 l5 p8
      )
    )
  )
def X10_best_L26 (N : Nat) : Nat → Nat → Int → Nat → Int → Int → Int → Mem → Option (Int × Mem)
  | 0 => fun _ _ _ _ _ _ _ => none
  | f + 1 => X10_best_L26_b N (X10_best_L26 N f)
def X10_best (N : Nat) (l0 : Nat) (l1 : Int) (m : Mem) : Option (Int × Mem) :=
  if shK l0 = 10 + 10 then (
    (getR 10 3 l0 m).bind fun t1 =>
    (X5_isCistern t1 l1 m).bind fun p2 =>
    if ¬ p2 = 0 then (
      (X10_asTold N l0 m).bind fun p3 =>
      X10_best_L26 N N l0 l1 p3.1 0 (-1) 0 p3.2
    ) else (
      some ((-1), m)
    )
  ) else none
-- DewBaron.hasIsland()Z
def X10_hasIsland (l0 : Nat) (m : Mem) : Option Int :=
  if shK l0 = 10 + 10 then (
    (getR 10 3 l0 m).bind fun t1 =>
    (X5_cells t1 m).bind fun p2 =>
    if p2 ≤ 0 then (
      retZ 0
    ) else (
      retZ 1
    )
  ) else none
-- DewBaron.canPass(I)Z
def X10_canPass (l0 : Nat) (l1 : Int) (m : Mem) : Option Int :=
  if shK l0 = 10 + 10 then (
    (X10_hasIsland l0 m).bind fun p1 =>
    if p1 = 0 then (
      retZ 0
    ) else (
      (getR 10 5 l0 m).bind fun t2 =>
      (getI 1 3 t2 m).bind fun t3 =>
      if 9999 < (wI (t3 + l1)) then (
        retZ 0
      ) else (
        retZ 1
      )
    )
  ) else none
-- DewBaron$Plan.cellAt(II)I
def X5_cellAt_J29 (l0 : Nat) (l1 : Int) (l2 : Int) (s0 : Int) (m : Mem) : Option Int :=
  if s0 = 0 then (
    some (-1)
  ) else (
    (getI 5 0 l0 m).bind fun t1 =>
    some (wI ((wI (l2 * t1)) + l1))
  )
def X5_cellAt_J28 (l0 : Nat) (l1 : Int) (l2 : Int) (m : Mem) : Option Int :=
  X5_cellAt_J29 l0 l1 l2 0 m
def X5_cellAt (l0 : Nat) (l1 : Int) (l2 : Int) (m : Mem) : Option Int :=
  if shK l0 = 5 + 10 then (
    if l1 < 0 then (
      X5_cellAt_J28 l0 l1 l2 m
    ) else (
      (getI 5 0 l0 m).bind fun t3 =>
      if t3 ≤ l1 then (
        X5_cellAt_J28 l0 l1 l2 m
      ) else (
        if l2 < 0 then (
          X5_cellAt_J28 l0 l1 l2 m
        ) else (
          (getI 5 1 l0 m).bind fun t4 =>
          if t4 ≤ l2 then (
            X5_cellAt_J28 l0 l1 l2 m
          ) else (
            X5_cellAt_J29 l0 l1 l2 1 m
          )
        )
      )
    )
  ) else none
-- DewBaron$Plan.sun(LDewBaron$Land;I)I
def X5_sun_J41 (N : Nat) (r11 : Nat → Nat → Int → Int → Int → Option Int) (l0 : Nat) (l1 : Nat) (l2 : Int) (l3 : Int) (l4 : Int) (m : Mem) : Option Int :=
  r11 l0 l1 l2 l3 (wI (l4 + 1))
def X5_sun_L11_b (N : Nat) (m : Mem) (r11 : Nat → Nat → Int → Int → Int → Option Int) (l0 : Nat) (l1 : Nat) (l2 : Int) (l3 : Int) (l4 : Int) : Option Int :=
  (getI 5 0 l0 m).bind fun t2 =>
  if t2 ≤ l4 then (
    some l3
  ) else (
    (X5_downOf l0 l2 m).bind fun p3 =>
    (X5_cellAt l0 l4 p3 m).bind fun p4 =>
    (X1_hasWall l1 p4 m).bind fun p5 =>
    if p5 = 0 then (
      X5_sun_J41 N r11 l0 l1 l2 l3 l4 m
    ) else (
      X5_sun_J41 N r11 l0 l1 l2 (wI (l3 + 10)) l4 m
    )
  )
def X5_sun_L11 (N : Nat) (m : Mem) : Nat → Nat → Nat → Int → Int → Int → Option Int
  | 0 => fun _ _ _ _ _ => none
  | f + 1 => X5_sun_L11_b N m (X5_sun_L11 N m f)
def X5_sun (N : Nat) (l0 : Nat) (l1 : Nat) (l2 : Int) (m : Mem) : Option Int :=
  if shK l0 = 5 + 10 then (
    (X5_acrossOf l0 l2 m).bind fun p1 =>
    X5_sun_L11 N m N l0 l1 l2 0 (wI (p1 + 1))
  ) else none
-- DewBaron.cell(II)I
def X10_cell (N : Nat) (l0 : Nat) (l1 : Int) (l2 : Int) (m : Mem) : Option Int :=
  if shK l0 = 10 + 10 then (
    (getR 10 3 l0 m).bind fun t1 =>
    (X5_isCell t1 l1 m).bind fun p2 =>
    if ¬ p2 = 0 then (
      if l2 = 0 then (
        (getR 10 3 l0 m).bind fun t3 =>
        (getR 5 3 t3 m).bind fun t4 =>
        (aldI t4 l1 m).bind fun t5 =>
        some t5
      ) else
      if l2 = 1 then (
        (getR 10 3 l0 m).bind fun t7 =>
        (getR 10 5 l0 m).bind fun t8 =>
        (X5_contents N t7 t8 l1 m).bind fun p9 =>
        some p9
      ) else
      if l2 = 2 then (
        (getR 10 3 l0 m).bind fun t11 =>
        (getR 10 5 l0 m).bind fun t12 =>
        (X5_openness N t11 t12 l1 m).bind fun p13 =>
        some p13
      ) else
      if l2 = 3 then (
        (getR 10 3 l0 m).bind fun t15 =>
        (X5_housesBy N t15 l1 m).bind fun p16 =>
        some p16
      ) else
      if l2 = 4 then (
        (getR 10 3 l0 m).bind fun t18 =>
        (getR 10 5 l0 m).bind fun t19 =>
        (X5_sun N t18 t19 l1 m).bind fun p20 =>
        some p20
      ) else
      some (-1)
    ) else (
      some (-1)
    )
  ) else none
-- DewBaron$Hanging.forget()V
def X0_forget (l0 : Nat) (m : Mem) : Option Mem :=
  if shK l0 = 0 + 10 then (
    (putI 0 0 l0 0 m).bind fun m1 =>
    some m1
  ) else none
-- DewBaron.changed()V
def X10_changed (l0 : Nat) (m : Mem) : Option Mem :=
  if shK l0 = 10 + 10 then (
    (putZ 10 12 l0 1 m).bind fun m1 =>
    (getR 10 14 l0 m1).bind fun t2 =>
    (X0_forget t2 m1).bind fun p3 =>
    some p3
  ) else none
-- DewBaron.checkOf([II)I
def X10_checkOf_L5_b (N : Nat) (m : Mem) (r5 : Nat → Int → Int → Int → Option Int) (l0 : Nat) (l1 : Int) (l2 : Int) (l3 : Int) : Option Int :=
  if l1 ≤ l3 then (
    some l2
  ) else (
    (alen l0).bind fun t1 =>
    if t1 ≤ l3 then (
      some l2
    ) else (
      (aldI l0 l3 m).bind fun t2 =>
      r5 l0 l1 (wI (Int.tmod (wI ((wI (5 * l2)) + t2)) 251)) (wI (l3 + 1))
    )
  )
def X10_checkOf_L5 (N : Nat) (m : Mem) : Nat → Nat → Int → Int → Int → Option Int
  | 0 => fun _ _ _ _ => none
  | f + 1 => X10_checkOf_L5_b N m (X10_checkOf_L5 N m f)
def X10_checkOf (N : Nat) (l0 : Nat) (l1 : Int) (m : Mem) : Option Int :=
  X10_checkOf_L5 N m N l0 l1 79 0
-- DewBaron$Plan.feeders(LDewBaron$Land;I)I
def X5_feeders_J32 (N : Nat) (r5 : Nat → Nat → Int → Int → Int → Option Int) (l0 : Nat) (l1 : Nat) (l2 : Int) (l3 : Int) (l4 : Int) (m : Mem) : Option Int :=
  r5 l0 l1 l2 l3 (wI (l4 + 1))
def X5_feeders_L5_b (N : Nat) (m : Mem) (r5 : Nat → Nat → Int → Int → Int → Option Int) (l0 : Nat) (l1 : Nat) (l2 : Int) (l3 : Int) (l4 : Int) : Option Int :=
  (getI 5 9 l0 m).bind fun t1 =>
  if t1 ≤ l4 then (
    some l3
  ) else (
    (getR 1 1 l1 m).bind fun t2 =>
    (aldI t2 l4 m).bind fun t3 =>
    (X5_nearest N l0 t3 m).bind fun p4 =>
    if ¬ p4 = l2 then (
      X5_feeders_J32 N r5 l0 l1 l2 l3 l4 m
    ) else (
      X5_feeders_J32 N r5 l0 l1 l2 (wI (l3 + 1)) l4 m
    )
  )
def X5_feeders_L5 (N : Nat) (m : Mem) : Nat → Nat → Nat → Int → Int → Int → Option Int
  | 0 => fun _ _ _ _ _ => none
  | f + 1 => X5_feeders_L5_b N m (X5_feeders_L5 N m f)
def X5_feeders (N : Nat) (l0 : Nat) (l1 : Nat) (l2 : Int) (m : Mem) : Option Int :=
  if shK l0 = 5 + 10 then (
    X5_feeders_L5 N m N l0 l1 l2 0 0
  ) else none
-- DewBaron.cistern(II)I
def X10_cistern (N : Nat) (l0 : Nat) (l1 : Int) (l2 : Int) (m : Mem) : Option (Int × Mem) :=
  if shK l0 = 10 + 10 then (
    (getR 10 3 l0 m).bind fun t1 =>
    (X5_isCistern t1 l1 m).bind fun p2 =>
    if ¬ p2 = 0 then (
      if l2 = 0 then (
        (getR 10 3 l0 m).bind fun t3 =>
        (getR 5 7 t3 m).bind fun t4 =>
        (aldI t4 l1 m).bind fun t5 =>
        some (t5, m)
      ) else
      if l2 = 1 then (
        (getR 10 5 l0 m).bind fun t7 =>
        (getR 1 2 t7 m).bind fun t8 =>
        (aldI t8 l1 m).bind fun t9 =>
        some (t9, m)
      ) else
      if l2 = 2 then (
        (X10_asTold N l0 m).bind fun p11 =>
        (getR 3 8 p11.1 p11.2).bind fun t12 =>
        (aldI t12 l1 p11.2).bind fun t13 =>
        some (t13, p11.2)
      ) else
      if l2 = 3 then (
        (getR 10 3 l0 m).bind fun t15 =>
        (getR 10 5 l0 m).bind fun t16 =>
        (X5_feeders N t15 t16 l1 m).bind fun p17 =>
        some (p17, m)
      ) else
      some ((-1), m)
    ) else (
      some ((-1), m)
    )
  ) else none
-- DewBaron.wallAt(I)I
def X10_wallAt (l0 : Int) (m : Mem) : Option Int :=
  some (wI (2 + l0))
-- DewBaron.clothAt(I)I
def X10_clothAt (l0 : Nat) (l1 : Int) (m : Mem) : Option Int :=
  if shK l0 = 10 + 10 then (
    (getR 10 3 l0 m).bind fun t1 =>
    (X5_cells t1 m).bind fun p2 =>
    (X10_wallAt p2 m).bind fun p3 =>
    some (wI (p3 + l1))
  ) else none
-- DewBaron$Plan.isTaken(I)Z
def X5_isTaken_J62 (N : Nat) (r30 : Nat → Int → Int → Option Int) (l0 : Nat) (l1 : Int) (l2 : Int) (m : Mem) : Option Int :=
  r30 l0 l1 (wI (l2 + 1))
def X5_isTaken_L30_b (N : Nat) (m : Mem) (r30 : Nat → Int → Int → Option Int) (l0 : Nat) (l1 : Int) (l2 : Int) : Option Int :=
  (getI 5 9 l0 m).bind fun t5 =>
  if t5 ≤ l2 then (
    retZ 0
  ) else (
    (getR 5 11 l0 m).bind fun t6 =>
    (aldI t6 l2 m).bind fun t7 =>
    if t7 = 0 then (
      X5_isTaken_J62 N r30 l0 l1 l2 m
    ) else (
      (getR 5 5 l0 m).bind fun t8 =>
      (getR 1 1 t8 m).bind fun t9 =>
      (aldI t9 l2 m).bind fun t10 =>
      if ¬ t10 = l1 then (
        X5_isTaken_J62 N r30 l0 l1 l2 m
      ) else (
        retZ 1
      )
    )
  )
def X5_isTaken_L30 (N : Nat) (m : Mem) : Nat → Nat → Int → Int → Option Int
  | 0 => fun _ _ _ => none
  | f + 1 => X5_isTaken_L30_b N m (X5_isTaken_L30 N m f)
def X5_isTaken (N : Nat) (l0 : Nat) (l1 : Int) (m : Mem) : Option Int :=
  if shK l0 = 5 + 10 then (
    (X5_isCell l0 l1 m).bind fun p1 =>
    if p1 = 0 then (
      retZ 1
    ) else (
      (getR 5 4 l0 m).bind fun t2 =>
      (aldI t2 l1 m).bind fun t3 =>
      if t3 = 1 then (
        retZ 1
      ) else (
        (X5_hasCistern N l0 l1 m).bind fun p4 =>
        if p4 = 0 then (
          X5_isTaken_L30 N m N l0 l1 0
        ) else (
          retZ 1
        )
      )
    )
  ) else none
-- DewBaron.clothsCanBe()Z
def X10_clothsCanBe_L63_b (N : Nat) (k90 : Nat → Int → Option Int) (m : Mem) (r63 : Nat → Int → Int → Int → Option Int) (l0 : Nat) (l1 : Int) (l2 : Int) (l3 : Int) : Option Int :=
  if l1 ≤ l3 then (
    k90 l0 l1
  ) else (
    (getR 10 0 l0 m).bind fun t13 =>
    (X10_clothAt l0 l3 m).bind fun p14 =>
    (aldI t13 p14 m).bind fun t15 =>
    if ¬ t15 = l2 then (
      r63 l0 l1 l2 (wI (l3 + 1))
    ) else (
      retZ 0
    )
  )
def X10_clothsCanBe_L63 (N : Nat) (k90 : Nat → Int → Option Int) (m : Mem) : Nat → Nat → Int → Int → Int → Option Int
  | 0 => fun _ _ _ _ => none
  | f + 1 => X10_clothsCanBe_L63_b N k90 m (X10_clothsCanBe_L63 N k90 m f)
def X10_clothsCanBe_L2_b (N : Nat) (m : Mem) (r2 : Nat → Int → Option Int) (l0 : Nat) (l1 : Int) : Option Int :=
  (getR 10 3 l0 m).bind fun t1 =>
  (getI 5 12 t1 m).bind fun t2 =>
  if t2 ≤ l1 then (
    retZ 1
  ) else (
    (getR 10 0 l0 m).bind fun t3 =>
    (X10_clothAt l0 l1 m).bind fun p4 =>
    (aldI t3 p4 m).bind fun t5 =>
    (getR 10 3 l0 m).bind fun t6 =>
    (X5_isCell t6 t5 m).bind fun p7 =>
    if p7 = 0 then (
      retZ 0
    ) else (
      (getR 10 3 l0 m).bind fun t8 =>
      (X5_isTaken N t8 t5 m).bind fun p9 =>
      if ¬ p9 = 0 then (
        retZ 0
      ) else (
        (getR 10 0 l0 m).bind fun t10 =>
        (X10_wallAt t5 m).bind fun p11 =>
        (aldI t10 p11 m).bind fun t12 =>
        if ¬ t12 = 1 then (
          X10_clothsCanBe_L63 N (fun z18 z19 =>
              r2 z18 (wI (z19 + 1))) m N l0 l1 t5 0
        ) else (
          retZ 0
        )
      )
    )
  )
def X10_clothsCanBe_L2 (N : Nat) (m : Mem) : Nat → Nat → Int → Option Int
  | 0 => fun _ _ => none
  | f + 1 => X10_clothsCanBe_L2_b N m (X10_clothsCanBe_L2 N m f)
def X10_clothsCanBe (N : Nat) (l0 : Nat) (m : Mem) : Option Int :=
  if shK l0 = 10 + 10 then (
    X10_clothsCanBe_L2 N m N l0 0
  ) else none
-- DewBaron.isHour(I)Z
def X10_isHour (l0 : Int) (m : Mem) : Option Int :=
  if l0 < 1 then (
    retZ 0
  ) else (
    if 12 < l0 then (
      retZ 0
    ) else (
      retZ 1
    )
  )
-- DewBaron.cold(II)I
def X10_cold_J27 (N : Nat) (l0 : Nat) (l1 : Int) (l2 : Int) (s0 : Int) (m : Mem) : Option (Int × Mem) :=
  if s0 = 0 then (
    some ((-1), m)
  ) else (
    (X10_asTold N l0 m).bind fun p3 =>
    (X3_coldIn p3.1 l1 l2 p3.2).bind fun p4 =>
    some (p4, p3.2)
  )
def X10_cold_J26 (N : Nat) (l0 : Nat) (l1 : Int) (l2 : Int) (m : Mem) : Option (Int × Mem) :=
  X10_cold_J27 N l0 l1 l2 0 m
def X10_cold_J22 (N : Nat) (l0 : Nat) (l1 : Int) (l2 : Int) (m : Mem) : Option (Int × Mem) :=
  X10_cold_J27 N l0 l1 l2 1 m
def X10_cold (N : Nat) (l0 : Nat) (l1 : Int) (l2 : Int) (m : Mem) : Option (Int × Mem) :=
  if shK l0 = 10 + 10 then (
    (getR 10 3 l0 m).bind fun t1 =>
    (X5_isCell t1 l1 m).bind fun p2 =>
    if p2 = 0 then (
      X10_cold_J26 N l0 l1 l2 m
    ) else (
      if l2 = 0 then (
        X10_cold_J22 N l0 l1 l2 m
      ) else (
        (X10_isHour l2 m).bind fun p6 =>
        if p6 = 0 then (
          X10_cold_J26 N l0 l1 l2 m
        ) else (
          X10_cold_J22 N l0 l1 l2 m
        )
      )
    )
  ) else none
-- DewBaron$Plan.isThing(I)Z
def X5_isThing (l0 : Nat) (l1 : Int) (m : Mem) : Option Int :=
  if shK l0 = 5 + 10 then (
    if l1 < 0 then (
      retZ 0
    ) else (
      (getI 5 9 l0 m).bind fun t1 =>
      if t1 ≤ l1 then (
        retZ 0
      ) else (
        retZ 1
      )
    )
  ) else none
-- DewBaron.dew(III)I
def X10_dew (N : Nat) (l0 : Nat) (l1 : Int) (l2 : Int) (l3 : Int) (m : Mem) : Option (Int × Mem) :=
  if shK l0 = 10 + 10 then (
    (getR 10 3 l0 m).bind fun t1 =>
    (X5_isThing t1 l1 m).bind fun p2 =>
    if p2 = 0 then (
      some ((-1), m)
    ) else (
      (X10_isHour l2 m).bind fun p3 =>
      if ¬ p3 = 0 then (
        if l3 = 0 then (
          (X10_asTold N l0 m).bind fun p4 =>
          (getR 3 5 p4.1 p4.2).bind fun t5 =>
          (aldR t5 l1 p4.2).bind fun t6 =>
          (aldI t6 l2 p4.2).bind fun t7 =>
          some (t7, p4.2)
        ) else
        if l3 = 1 then (
          (X10_asTold N l0 m).bind fun p9 =>
          (getR 3 6 p9.1 p9.2).bind fun t10 =>
          (aldR t10 l1 p9.2).bind fun t11 =>
          (aldI t11 l2 p9.2).bind fun t12 =>
          some (t12, p9.2)
        ) else
        if l3 = 2 then (
          (X10_asTold N l0 m).bind fun p14 =>
          (getR 3 7 p14.1 p14.2).bind fun t15 =>
          (aldR t15 l1 p14.2).bind fun t16 =>
          (aldI t16 l2 p14.2).bind fun t17 =>
          some (t17, p14.2)
        ) else
        some ((-1), m)
      ) else (
        some ((-1), m)
      )
    )
  ) else none
-- DewBaron.down(II)I
def X10_down_J22 (N : Nat) (m : Mem) : Option (Int × Mem) :=
  some ((-1000000000), m)
def X10_down (N : Nat) (l0 : Nat) (l1 : Int) (l2 : Int) (m : Mem) : Option (Int × Mem) :=
  if shK l0 = 10 + 10 then (
    (getR 10 5 l0 m).bind fun t1 =>
    (X1_hasWall t1 l1 m).bind fun p2 =>
    if p2 = 0 then (
      X10_down_J22 N m
    ) else (
      (getR 10 3 l0 m).bind fun t3 =>
      (X5_isCistern t3 l2 m).bind fun p4 =>
      if ¬ p4 = 0 then (
        (X10_passWithout N l0 l1 m).bind fun p5 =>
        (X10_asTold N l0 p5).bind fun p6 =>
        (X10_gain l0 p6.1 l2 p6.2).bind fun p7 =>
        some (p7, p6.2)
      ) else (
        X10_down_J22 N m
      )
    )
  ) else none
-- DewBaron.drawOfHundred()I
def X10_drawOfHundred (l0 : Nat) (m : Mem) : Option (Int × Mem) :=
  if shK l0 = 10 + 10 then (
    (getI 10 8 l0 m).bind fun t1 =>
    (putI 10 8 l0 (wI (land (wL ((wL (1103515245 * t1)) + 12345)) 2147483647)) m).bind fun m2 =>
    (getI 10 8 l0 m2).bind fun t3 =>
    some ((wI (Int.tmod (wI (Int.tdiv t3 64)) 100)), m2)
  ) else none
-- DewBaron.drawSky()V
def X10_drawSky_J32 (N : Nat) (r2 : Nat → Int → Mem → Option Mem) (l0 : Nat) (l1 : Int) (s0 : Nat) (s1 : Int) (s2 : Int) (m : Mem) : Option Mem :=
  (astI s0 s1 s2 m).bind fun m5 =>
  r2 l0 (wI (l1 + 1)) m5
def X10_drawSky_L2_b (N : Nat) (r2 : Nat → Int → Mem → Option Mem) (l0 : Nat) (l1 : Int) (m : Mem) : Option Mem :=
  if 12 < l1 then (
    some m
  ) else (
    (getR 10 11 l0 m).bind fun t1 =>
    (X10_drawOfHundred l0 m).bind fun p2 =>
    (getR 10 3 l0 p2.2).bind fun t3 =>
    (getI 5 18 t3 p2.2).bind fun t4 =>
    if t4 ≤ p2.1 then (
      X10_drawSky_J32 N r2 l0 l1 t1 l1 0 p2.2
    ) else (
      X10_drawSky_J32 N r2 l0 l1 t1 l1 1 p2.2
    )
  )
def X10_drawSky_L2 (N : Nat) : Nat → Nat → Int → Mem → Option Mem
  | 0 => fun _ _ _ => none
  | f + 1 => X10_drawSky_L2_b N (X10_drawSky_L2 N f)
def X10_drawSky (N : Nat) (l0 : Nat) (m : Mem) : Option Mem :=
  if shK l0 = 10 + 10 then (
    X10_drawSky_L2 N N l0 1 m
  ) else none
-- DewBaron.dropsAt(I)I
def X10_dropsAt (l0 : Nat) (l1 : Int) (m : Mem) : Option Int :=
  if shK l0 = 10 + 10 then (
    (getR 10 3 l0 m).bind fun t1 =>
    (getI 5 12 t1 m).bind fun t2 =>
    (X10_clothAt l0 t2 m).bind fun p3 =>
    some (wI (p3 + (wI (2 * l1))))
  ) else none
-- DewBaron.refuse(I)I
def X10_refuse (l0 : Nat) (l1 : Int) (m : Mem) : Option (Int × Mem) :=
  if shK l0 = 10 + 10 then (
    if l1 < 0 then (
      some ((-1), m)
    ) else (
      (getR 10 18 l0 m).bind fun t1 =>
      (alen t1).bind fun t2 =>
      if t2 ≤ l1 then (
        some ((-1), m)
      ) else (
        (getR 10 18 l0 m).bind fun t3 =>
        (aldI t3 l1 m).bind fun t4 =>
        (astI t3 l1 (wI (t4 + 1)) m).bind fun m5 =>
        some ((-1), m5)
      )
    )
  ) else none
-- DewBaron.end(I)Z
def X10_end_J12 (l0 : Nat) (m : Mem) : Option (Int × Mem) :=
  (X10_refuse l0 0 m).bind fun p1 =>
  (retZ 0).bind fun r2 => some (r2, p1.2)
def X10_end (l0 : Nat) (l1 : Int) (m : Mem) : Option (Int × Mem) :=
  if shK l0 = 10 + 10 then (
    if l1 < 0 then (
      X10_end_J12 l0 m
    ) else (
      (getI 10 1 l0 m).bind fun t3 =>
      if l1 ≤ t3 then (
        (putI 10 1 l0 l1 m).bind fun m4 =>
        (retZ 1).bind fun r5 => some (r5, m4)
      ) else (
        X10_end_J12 l0 m
      )
    )
  ) else none
-- DewBaron.fault(I)I
def X10_fault (l0 : Nat) (l1 : Int) (m : Mem) : Option Int :=
  if shK l0 = 10 + 10 then (
    if l1 = 0 then (
      (getR 10 2 l0 m).bind fun t1 =>
      (getI 6 9 t1 m).bind fun t2 =>
      some t2
    ) else
    if l1 = 1 then (
      (getR 10 2 l0 m).bind fun t4 =>
      (getI 6 10 t4 m).bind fun t5 =>
      some t5
    ) else
    some (-1)
  ) else none
-- DewBaron.putNumber(I)V
def X10_putNumber_L3_b (N : Nat) (r3 : Nat → Int → Int → Mem → Option Mem) (l0 : Nat) (l1 : Int) (l2 : Int) (m : Mem) : Option Mem :=
  if l2 < 0 then (
    some m
  ) else (
    (getI 10 1 l0 m).bind fun t1 =>
    if 1600 ≤ t1 then (
      some m
    ) else (
      (getR 10 0 l0 m).bind fun t2 =>
      (getI 10 1 l0 m).bind fun t3 =>
      (astI t2 t3 (iand (ishr l1 l2) 255) m).bind fun m4 =>
      (getI 10 1 l0 m4).bind fun t5 =>
      (putI 10 1 l0 (wI (t5 + 1)) m4).bind fun m6 =>
      r3 l0 l1 (wI (l2 + (-8))) m6
    )
  )
def X10_putNumber_L3 (N : Nat) : Nat → Nat → Int → Int → Mem → Option Mem
  | 0 => fun _ _ _ _ => none
  | f + 1 => X10_putNumber_L3_b N (X10_putNumber_L3 N f)
def X10_putNumber (N : Nat) (l0 : Nat) (l1 : Int) (m : Mem) : Option Mem :=
  if shK l0 = 10 + 10 then (
    X10_putNumber_L3 N N l0 l1 24 m
  ) else none
-- DewBaron.feed(IIIII)I
def X10_feed (N : Nat) (l0 : Nat) (l1 : Int) (l2 : Int) (l3 : Int) (l4 : Int) (l5 : Int) (m : Mem) : Option (Int × Mem) :=
  if shK l0 = 10 + 10 then (
    (getI 10 1 l0 m).bind fun t1 =>
    if (wI (t1 + 20)) ≤ 1600 then (
      (X10_putNumber N l0 l1 m).bind fun p2 =>
      (X10_putNumber N l0 l2 p2).bind fun p3 =>
      (X10_putNumber N l0 l3 p3).bind fun p4 =>
      (X10_putNumber N l0 l4 p4).bind fun p5 =>
      (X10_putNumber N l0 l5 p5).bind fun p6 =>
      (getI 10 1 l0 p6).bind fun t7 =>
      some (t7, p6)
    ) else (
      (X10_refuse l0 0 m).bind fun p8 =>
      some (p8.1, p8.2)
    )
  ) else none
-- DewBaron$Plan.isCloth(I)Z
def X5_isCloth (l0 : Nat) (l1 : Int) (m : Mem) : Option Int :=
  if shK l0 = 5 + 10 then (
    if l1 < 0 then (
      retZ 0
    ) else (
      (getI 5 12 l0 m).bind fun t1 =>
      if t1 ≤ l1 then (
        retZ 0
      ) else (
        retZ 1
      )
    )
  ) else none
-- DewBaron$Past.remember(LDewBaron$Land;)V
def X4_remember (l0 : Nat) (l1 : Nat) (m : Mem) : Option Mem :=
  if shK l0 = 4 + 10 then (
    (getR 4 0 l0 m).bind fun t1 =>
    (getI 4 1 l0 m).bind fun t2 =>
    (aldR t1 t2 m).bind fun t3 =>
    (X1_copyFrom t3 l1 m).bind fun p4 =>
    (getI 4 1 l0 p4).bind fun t5 =>
    (putI 4 1 l0 (wI (Int.tmod (wI (t5 + 1)) 20)) p4).bind fun m6 =>
    (getI 4 2 l0 m6).bind fun t7 =>
    (putI 4 2 l0 (min (wI (t7 + 1)) 20) m6).bind fun m8 =>
    some m8
  ) else none
-- DewBaron.hang(II)Z
def X10_hang_J26 (N : Nat) (l0 : Nat) (m : Mem) : Option (Int × Mem) :=
  (X10_refuse l0 2 m).bind fun p3 =>
  (retZ 0).bind fun r4 => some (r4, p3.2)
def X10_hang (N : Nat) (l0 : Nat) (l1 : Int) (l2 : Int) (m : Mem) : Option (Int × Mem) :=
  if shK l0 = 10 + 10 then (
    (getR 10 3 l0 m).bind fun t1 =>
    (X5_isCloth t1 l1 m).bind fun p2 =>
    if p2 = 0 then (
      X10_hang_J26 N l0 m
    ) else (
      (getR 10 3 l0 m).bind fun t5 =>
      (getR 10 5 l0 m).bind fun t6 =>
      (X5_isFree N t5 t6 l2 m).bind fun p7 =>
      if ¬ p7 = 0 then (
        (getR 10 7 l0 m).bind fun t8 =>
        (getR 10 5 l0 m).bind fun t9 =>
        (X4_remember t8 t9 m).bind fun p10 =>
        (getR 10 5 l0 p10).bind fun t11 =>
        (getR 1 1 t11 p10).bind fun t12 =>
        (getR 10 3 l0 p10).bind fun t13 =>
        (getR 5 13 t13 p10).bind fun t14 =>
        (aldI t14 l1 p10).bind fun t15 =>
        (astI t12 t15 l2 p10).bind fun m16 =>
        (X10_changed l0 m16).bind fun p17 =>
        (retZ 1).bind fun r18 => some (r18, p17)
      ) else (
        X10_hang_J26 N l0 m
      )
    )
  ) else none
-- DewBaron$Land.walls()I
def X1_walls_L13_b (N : Nat) (m : Mem) (r13 : Int → Nat → Int → Int → Option Int) (l1 : Int) (l2 : Nat) (l3 : Int) (l4 : Int) : Option Int :=
  if l3 ≤ l4 then (
    some l1
  ) else (
    (aldI l2 l4 m).bind fun t3 =>
    r13 (wI (l1 + t3)) l2 l3 (wI (l4 + 1))
  )
def X1_walls_L13 (N : Nat) (m : Mem) : Nat → Int → Nat → Int → Int → Option Int
  | 0 => fun _ _ _ _ => none
  | f + 1 => X1_walls_L13_b N m (X1_walls_L13 N m f)
def X1_walls (N : Nat) (l0 : Nat) (m : Mem) : Option Int :=
  if shK l0 = 1 + 10 then (
    (getR 1 0 l0 m).bind fun t1 =>
    (alen t1).bind fun t2 =>
    X1_walls_L13 N m N 0 t1 t2 0
  ) else none
-- DewBaron$Plan.houses()I
def X5_houses_L13_b (N : Nat) (m : Mem) (r13 : Int → Nat → Int → Int → Option Int) (l1 : Int) (l2 : Nat) (l3 : Int) (l4 : Int) : Option Int :=
  if l3 ≤ l4 then (
    some l1
  ) else (
    (aldI l2 l4 m).bind fun t3 =>
    r13 (wI (l1 + t3)) l2 l3 (wI (l4 + 1))
  )
def X5_houses_L13 (N : Nat) (m : Mem) : Nat → Int → Nat → Int → Int → Option Int
  | 0 => fun _ _ _ _ => none
  | f + 1 => X5_houses_L13_b N m (X5_houses_L13 N m f)
def X5_houses (N : Nat) (l0 : Nat) (m : Mem) : Option Int :=
  if shK l0 = 5 + 10 then (
    (getR 5 4 l0 m).bind fun t1 =>
    (alen t1).bind fun t2 =>
    X5_houses_L13 N m N 0 t1 t2 0
  ) else none
-- DewBaron.has(I)I
def X10_has (N : Nat) (l0 : Nat) (l1 : Int) (m : Mem) : Option Int :=
  if shK l0 = 10 + 10 then (
    if l1 = 0 then (
      (getR 10 3 l0 m).bind fun t1 =>
      (getI 5 0 t1 m).bind fun t2 =>
      some t2
    ) else
    if l1 = 1 then (
      (getR 10 3 l0 m).bind fun t4 =>
      (getI 5 1 t4 m).bind fun t5 =>
      some t5
    ) else
    if l1 = 2 then (
      (getR 10 5 l0 m).bind fun t7 =>
      (X1_walls N t7 m).bind fun p8 =>
      some p8
    ) else
    if l1 = 3 then (
      (getR 10 3 l0 m).bind fun t10 =>
      (X5_houses N t10 m).bind fun p11 =>
      some p11
    ) else
    if l1 = 4 then (
      (getR 10 3 l0 m).bind fun t13 =>
      (getI 5 6 t13 m).bind fun t14 =>
      some t14
    ) else
    if l1 = 5 then (
      (getR 10 3 l0 m).bind fun t16 =>
      (getI 5 9 t16 m).bind fun t17 =>
      some t17
    ) else
    if l1 = 6 then (
      (getR 10 3 l0 m).bind fun t19 =>
      (getI 5 12 t19 m).bind fun t20 =>
      some t20
    ) else
    if l1 = 7 then (
      (getR 10 3 l0 m).bind fun t22 =>
      (getI 5 17 t22 m).bind fun t23 =>
      some t23
    ) else
    if l1 = 8 then (
      (getR 10 3 l0 m).bind fun t25 =>
      (getI 5 18 t25 m).bind fun t26 =>
      some t26
    ) else
    if l1 = 9 then (
      (getR 10 3 l0 m).bind fun t28 =>
      (getI 5 19 t28 m).bind fun t29 =>
      some t29
    ) else
    if l1 = 10 then (
      (getR 10 5 l0 m).bind fun t31 =>
      (getI 1 3 t31 m).bind fun t32 =>
      some t32
    ) else
    if l1 = 11 then (
      (getR 10 7 l0 m).bind fun t34 =>
      (getI 4 2 t34 m).bind fun t35 =>
      some t35
    ) else
    if l1 = 12 then (
      (getI 10 8 l0 m).bind fun t37 =>
      some t37
    ) else
    some (-1)
  ) else none
-- DewBaron.write(I)V
def X10_write (l0 : Nat) (l1 : Int) (m : Mem) : Option Mem :=
  if shK l0 = 10 + 10 then (
    (getI 10 17 l0 m).bind fun t1 =>
    (getR 10 16 l0 m).bind fun t2 =>
    (alen t2).bind fun t3 =>
    if t3 ≤ t1 then (
      some m
    ) else (
      (getR 10 16 l0 m).bind fun t4 =>
      (getI 10 17 l0 m).bind fun t5 =>
      (astI t4 t5 l1 m).bind fun m6 =>
      (getI 10 17 l0 m6).bind fun t7 =>
      (putI 10 17 l0 (wI (t7 + 1)) m6).bind fun m8 =>
      some m8
    )
  ) else none
-- DewBaron.writeTwo(I)V
def X10_writeTwo (l0 : Nat) (l1 : Int) (m : Mem) : Option Mem :=
  if shK l0 = 10 + 10 then (
    (X10_write l0 (iand (ishr l1 8) 255) m).bind fun p1 =>
    (X10_write l0 (iand l1 255) p1).bind fun p2 =>
    some p2
  ) else none
-- DewBaron.image()I
def X10_image_L18_b (N : Nat) (k48 : Nat → Mem → Option (Int × Mem)) (r18 : Nat → Int → Mem → Option (Int × Mem)) (l0 : Nat) (l1 : Int) (m : Mem) : Option (Int × Mem) :=
  (getR 10 3 l0 m).bind fun t5 =>
  (X5_cells t5 m).bind fun p6 =>
  if p6 ≤ l1 then (
    k48 l0 m
  ) else (
    (getR 10 5 l0 m).bind fun t7 =>
    (getR 1 0 t7 m).bind fun t8 =>
    (aldI t8 l1 m).bind fun t9 =>
    (X10_write l0 t9 m).bind fun p10 =>
    r18 l0 (wI (l1 + 1)) p10
  )
def X10_image_L18 (N : Nat) (k48 : Nat → Mem → Option (Int × Mem)) : Nat → Nat → Int → Mem → Option (Int × Mem)
  | 0 => fun _ _ _ => none
  | f + 1 => X10_image_L18_b N k48 (X10_image_L18 N k48 f)
def X10_image_L50_b (N : Nat) (k88 : Nat → Mem → Option (Int × Mem)) (r50 : Nat → Int → Mem → Option (Int × Mem)) (l0 : Nat) (l1 : Int) (m : Mem) : Option (Int × Mem) :=
  (getR 10 3 l0 m).bind fun t14 =>
  (getI 5 12 t14 m).bind fun t15 =>
  if t15 ≤ l1 then (
    k88 l0 m
  ) else (
    (getR 10 5 l0 m).bind fun t16 =>
    (getR 1 1 t16 m).bind fun t17 =>
    (getR 10 3 l0 m).bind fun t18 =>
    (getR 5 13 t18 m).bind fun t19 =>
    (aldI t19 l1 m).bind fun t20 =>
    (aldI t17 t20 m).bind fun t21 =>
    (X10_write l0 t21 m).bind fun p22 =>
    r50 l0 (wI (l1 + 1)) p22
  )
def X10_image_L50 (N : Nat) (k88 : Nat → Mem → Option (Int × Mem)) : Nat → Nat → Int → Mem → Option (Int × Mem)
  | 0 => fun _ _ _ => none
  | f + 1 => X10_image_L50_b N k88 (X10_image_L50 N k88 f)
def X10_image_L90_b (N : Nat) (k120 : Nat → Mem → Option (Int × Mem)) (r90 : Nat → Int → Mem → Option (Int × Mem)) (l0 : Nat) (l1 : Int) (m : Mem) : Option (Int × Mem) :=
  (getR 10 3 l0 m).bind fun t26 =>
  (getI 5 6 t26 m).bind fun t27 =>
  if t27 ≤ l1 then (
    k120 l0 m
  ) else (
    (getR 10 5 l0 m).bind fun t28 =>
    (getR 1 2 t28 m).bind fun t29 =>
    (aldI t29 l1 m).bind fun t30 =>
    (X10_writeTwo l0 t30 m).bind fun p31 =>
    r90 l0 (wI (l1 + 1)) p31
  )
def X10_image_L90 (N : Nat) (k120 : Nat → Mem → Option (Int × Mem)) : Nat → Nat → Int → Mem → Option (Int × Mem)
  | 0 => fun _ _ _ => none
  | f + 1 => X10_image_L90_b N k120 (X10_image_L90 N k120 f)
def X10_image (N : Nat) (l0 : Nat) (m : Mem) : Option (Int × Mem) :=
  if shK l0 = 10 + 10 then (
    (putI 10 17 l0 0 m).bind fun m1 =>
    (getR 10 5 l0 m1).bind fun t2 =>
    (getI 1 3 t2 m1).bind fun t3 =>
    (X10_writeTwo l0 t3 m1).bind fun p4 =>
    X10_image_L18 N (fun z12 m13 =>
        X10_image_L50 N (fun z24 m25 =>
            X10_image_L90 N (fun z33 m34 =>
                (getR 10 16 z33 m34).bind fun t35 =>
                (getI 10 17 z33 m34).bind fun t36 =>
                (X10_checkOf N t35 t36 m34).bind fun p37 =>
                (X10_write z33 p37 m34).bind fun p38 =>
                (getI 10 17 z33 p38).bind fun t39 =>
                some (t39, p38)) N z24 0 m25) N z12 0 m13) N l0 0 p4
  ) else none
-- DewBaron.twoAt(I)I
def X10_twoAt (l0 : Nat) (l1 : Int) (m : Mem) : Option Int :=
  if shK l0 = 10 + 10 then (
    (getR 10 0 l0 m).bind fun t1 =>
    (aldI t1 l1 m).bind fun t2 =>
    (getR 10 0 l0 m).bind fun t3 =>
    (aldI t3 (wI (l1 + 1)) m).bind fun t4 =>
    some (wI ((wI (t2 * 256)) + t4))
  ) else none
-- DewBaron.wallsCanBe()Z
def X10_wallsCanBe_J46 (N : Nat) (r2 : Nat → Int → Option Int) (l0 : Nat) (l1 : Int) (m : Mem) : Option Int :=
  r2 l0 (wI (l1 + 1))
def X10_wallsCanBe_L2_b (N : Nat) (m : Mem) (r2 : Nat → Int → Option Int) (l0 : Nat) (l1 : Int) : Option Int :=
  (getR 10 3 l0 m).bind fun t1 =>
  (X5_cells t1 m).bind fun p2 =>
  if p2 ≤ l1 then (
    retZ 1
  ) else (
    (getR 10 0 l0 m).bind fun t3 =>
    (X10_wallAt l1 m).bind fun p4 =>
    (aldI t3 p4 m).bind fun t5 =>
    if 1 < t5 then (
      retZ 0
    ) else (
      if ¬ t5 = 1 then (
        X10_wallsCanBe_J46 N r2 l0 l1 m
      ) else (
        (getR 10 3 l0 m).bind fun t6 =>
        (X5_isTaken N t6 l1 m).bind fun p7 =>
        if p7 = 0 then (
          X10_wallsCanBe_J46 N r2 l0 l1 m
        ) else (
          retZ 0
        )
      )
    )
  )
def X10_wallsCanBe_L2 (N : Nat) (m : Mem) : Nat → Nat → Int → Option Int
  | 0 => fun _ _ => none
  | f + 1 => X10_wallsCanBe_L2_b N m (X10_wallsCanBe_L2 N m f)
def X10_wallsCanBe (N : Nat) (l0 : Nat) (m : Mem) : Option Int :=
  if shK l0 = 10 + 10 then (
    X10_wallsCanBe_L2 N m N l0 0
  ) else none
-- DewBaron.isImage(I)Z
def X10_isImage_L60_b (N : Nat) (k94 : Nat → Option Int) (m : Mem) (r60 : Nat → Int → Option Int) (l0 : Nat) (l3 : Int) : Option Int :=
  (getR 10 3 l0 m).bind fun t10 =>
  (getI 5 6 t10 m).bind fun t11 =>
  if t11 ≤ l3 then (
    k94 l0
  ) else (
    (X10_dropsAt l0 l3 m).bind fun p12 =>
    (X10_twoAt l0 p12 m).bind fun p13 =>
    if p13 ≤ 9999 then (
      r60 l0 (wI (l3 + 1))
    ) else (
      retZ 0
    )
  )
def X10_isImage_L60 (N : Nat) (k94 : Nat → Option Int) (m : Mem) : Nat → Nat → Int → Option Int
  | 0 => fun _ _ => none
  | f + 1 => X10_isImage_L60_b N k94 m (X10_isImage_L60 N k94 m f)
def X10_isImage (N : Nat) (l0 : Nat) (l1 : Int) (m : Mem) : Option Int :=
  if shK l0 = 10 + 10 then (
    (getR 10 3 l0 m).bind fun t1 =>
    (getI 5 6 t1 m).bind fun t2 =>
    (X10_dropsAt l0 t2 m).bind fun p3 =>
    (X10_hasIsland l0 m).bind fun p4 =>
    if p4 = 0 then (
      retZ 0
    ) else (
      if ¬ l1 = (wI (p3 + 1)) then (
        retZ 0
      ) else (
        (getR 10 0 l0 m).bind fun t5 =>
        (X10_checkOf N t5 p3 m).bind fun p6 =>
        (getR 10 0 l0 m).bind fun t7 =>
        (aldI t7 p3 m).bind fun t8 =>
        if p6 = t8 then (
          (X10_twoAt l0 0 m).bind fun p9 =>
          if p9 ≤ 9999 then (
            X10_isImage_L60 N (fun z16 =>
                (X10_wallsCanBe N z16 m).bind fun p17 =>
                if p17 = 0 then (
                  retZ 0
                ) else (
                  (X10_clothsCanBe N z16 m).bind fun p18 =>
                  if p18 = 0 then (
                    retZ 0
                  ) else (
                    retZ 1
                  )
                )) m N l0 0
          ) else (
            retZ 0
          )
        ) else (
          retZ 0
        )
      )
    )
  ) else none
-- DewBaron$Words.isBlank(I)Z
def X8_isBlank_J12 (m : Mem) : Option Int :=
  retZ 1
def X8_isBlank (l0 : Int) (m : Mem) : Option Int :=
  if l0 = 32 then (
    X8_isBlank_J12 m
  ) else (
    if ¬ l0 = 10 then (
      retZ 0
    ) else (
      X8_isBlank_J12 m
    )
  )
-- DewBaron$Words.isLetter(I)Z
def X8_isLetter (l0 : Int) (m : Mem) : Option Int :=
  if l0 < 97 then (
    retZ 0
  ) else (
    if 122 < l0 then (
      retZ 0
    ) else (
      retZ 1
    )
  )
-- DewBaron$Words.isDigit(I)Z
def X8_isDigit (l0 : Int) (m : Mem) : Option Int :=
  if l0 < 48 then (
    retZ 0
  ) else (
    if 57 < l0 then (
      retZ 0
    ) else (
      retZ 1
    )
  )
-- DewBaron$Words.put(III)V
def X8_put_J66 (s0 : Nat) (s1 : Int) (m : Mem) : Option Mem :=
  (putZ 8 4 s0 s1 m).bind fun m5 =>
  some m5
def X8_put_J65 (s0 : Nat) (m : Mem) : Option Mem :=
  X8_put_J66 s0 0 m
def X8_put_J44 (l0 : Nat) (l1 : Int) (l3 : Int) (m : Mem) : Option Mem :=
  (putI 8 3 l0 l1 m).bind fun m4 =>
  if ¬ l1 = 2 then (
    X8_put_J65 l0 m4
  ) else (
    if ¬ l3 = 10 then (
      X8_put_J65 l0 m4
    ) else (
      X8_put_J66 l0 1 m4
    )
  )
def X8_put (l0 : Nat) (l1 : Int) (l2 : Int) (l3 : Int) (m : Mem) : Option Mem :=
  if shK l0 = 8 + 10 then (
    (getI 8 2 l0 m).bind fun t1 =>
    (getR 8 1 l0 m).bind fun t2 =>
    (alen t2).bind fun t3 =>
    if t3 ≤ t1 then (
      X8_put_J44 l0 l1 l3 m
    ) else (
      (getR 8 1 l0 m).bind fun t8 =>
      (getI 8 2 l0 m).bind fun t9 =>
      (astL t8 t9 (lor (lshl (lor (lshl l3 11) l2) 3) l1) m).bind fun m10 =>
      (getI 8 2 l0 m10).bind fun t11 =>
      (putI 8 2 l0 (wI (t11 + 1)) m10).bind fun m12 =>
      X8_put_J44 l0 l1 l3 m12
    )
  ) else none
-- DewBaron$Words.skyOf(I)I
def X8_skyOf (l0 : Int) (m : Mem) : Option Int :=
  if l0 = 99 then (
    some 0
  ) else
  if l0 = 111 then (
    some 1
  ) else
  if l0 = 115 then (
    some 3
  ) else
  if l0 = 119 then (
    some 2
  ) else
  some (-1)
-- DewBaron$Words.putLetters([III)V
def X8_putLetters_J52 (N : Nat) (r21 : Nat → Nat → Int → Int → Int → Int → Int → Mem → Option Mem) (l0 : Nat) (l1 : Nat) (l2 : Int) (l3 : Int) (l4 : Int) (l6 : Int) (l7 : Int) (s0 : Int) (m : Mem) : Option Mem :=
  r21 l0 l1 l2 l3 (ior l4 (ishl l7 (wI (2 * (wI (l6 - l2)))))) s0 (wI (l6 + 1)) m
def X8_putLetters_L21_b (N : Nat) (k74 : Nat → Int → Int → Int → Mem → Option Mem) (r21 : Nat → Nat → Int → Int → Int → Int → Int → Mem → Option Mem) (l0 : Nat) (l1 : Nat) (l2 : Int) (l3 : Int) (l4 : Int) (l5 : Int) (l6 : Int) (m : Mem) : Option Mem :=
  if l3 ≤ l6 then (
    k74 l0 l2 l4 l5 m
  ) else (
    if l5 = 0 then (
      k74 l0 l2 l4 l5 m
    ) else (
      (aldI l1 l6 m).bind fun t1 =>
      (X8_skyOf t1 m).bind fun p2 =>
      if p2 = (-1) then (
        X8_putLetters_J52 N r21 l0 l1 l2 l3 l4 l6 p2 0 m
      ) else (
        X8_putLetters_J52 N r21 l0 l1 l2 l3 l4 l6 p2 1 m
      )
    )
  )
def X8_putLetters_L21 (N : Nat) (k74 : Nat → Int → Int → Int → Mem → Option Mem) : Nat → Nat → Nat → Int → Int → Int → Int → Int → Mem → Option Mem
  | 0 => fun _ _ _ _ _ _ _ _ => none
  | f + 1 => X8_putLetters_L21_b N k74 (X8_putLetters_L21 N k74 f)
def X8_putLetters_J98 (N : Nat) (s0 : Nat) (s1 : Int) (s2 : Int) (s3 : Int) (m : Mem) : Option Mem :=
  (X8_put s0 s1 s2 s3 m).bind fun p11 =>
  some p11
def X8_putLetters_J86 (N : Nat) (l2 : Int) (l4 : Int) (l5 : Int) (s0 : Nat) (s1 : Int) (m : Mem) : Option Mem :=
  if l5 = 0 then (
    X8_putLetters_J98 N s0 s1 l2 l2 m
  ) else (
    X8_putLetters_J98 N s0 s1 l2 l4 m
  )
def X8_putLetters_J16 (N : Nat) (l0 : Nat) (l1 : Nat) (l2 : Int) (l3 : Int) (l4 : Int) (s0 : Int) (m : Mem) : Option Mem :=
  X8_putLetters_L21 N (fun z6 z7 z8 z9 m10 =>
      if z9 = 0 then (
        X8_putLetters_J86 N z7 z8 z9 z6 6 m10
      ) else (
        X8_putLetters_J86 N z7 z8 z9 z6 4 m10
      )) N l0 l1 l2 l3 l4 s0 l2 m
def X8_putLetters (N : Nat) (l0 : Nat) (l1 : Nat) (l2 : Int) (l3 : Int) (m : Mem) : Option Mem :=
  if shK l0 = 8 + 10 then (
    if 12 < (wI (l3 - l2)) then (
      X8_putLetters_J16 N l0 l1 l2 l3 0 0 m
    ) else (
      X8_putLetters_J16 N l0 l1 l2 l3 0 1 m
    )
  ) else none
-- DewBaron$Words.numberOf(I)I
def X8_numberOf (l0 : Int) (m : Mem) : Option Int :=
  some (wI ((wI (l0 - 97)) + 1))
-- DewBaron$Words.ownWord(J)I
def X8_ownWord_L2_b (N : Nat) (m : Mem) (r2 : Nat → Int → Int → Option Int) (l0 : Nat) (l1 : Int) (l3 : Int) : Option Int :=
  if 27 ≤ l3 then (
    some (-1)
  ) else (
    (getR 8 0 l0 m).bind fun t1 =>
    (aldL t1 l3 m).bind fun t2 =>
    if ¬ (lcm t2 l1) = 0 then (
      r2 l0 l1 (wI (l3 + 1))
    ) else (
      some l3
    )
  )
def X8_ownWord_L2 (N : Nat) (m : Mem) : Nat → Nat → Int → Int → Option Int
  | 0 => fun _ _ _ => none
  | f + 1 => X8_ownWord_L2_b N m (X8_ownWord_L2 N m f)
def X8_ownWord (N : Nat) (l0 : Nat) (l1 : Int) (m : Mem) : Option Int :=
  if shK l0 = 8 + 10 then (
    X8_ownWord_L2 N m N l0 l1 0
  ) else none
-- DewBaron$Words.putWord([III)V
def X8_putWord_J40 (N : Nat) (r6 : Nat → Nat → Int → Int → Int → Int → Mem → Option Mem) (l0 : Nat) (l1 : Nat) (l2 : Int) (l3 : Int) (l6 : Int) (s0 : Int) (s1 : Int) (m : Mem) : Option Mem :=
  r6 l0 l1 l2 l3 (wL (s0 + s1)) (wI (l6 + 1)) m
def X8_putWord_L6_b (N : Nat) (k50 : Nat → Int → Int → Int → Mem → Option Mem) (r6 : Nat → Nat → Int → Int → Int → Int → Mem → Option Mem) (l0 : Nat) (l1 : Nat) (l2 : Int) (l3 : Int) (l4 : Int) (l6 : Int) (m : Mem) : Option Mem :=
  if 7 ≤ l6 then (
    k50 l0 l2 l3 l4 m
  ) else (
    if l3 ≤ (wI (l2 + l6)) then (
      X8_putWord_J40 N r6 l0 l1 l2 l3 l6 (wL (l4 * 32)) 0 m
    ) else (
      (aldI l1 (wI (l2 + l6)) m).bind fun t1 =>
      (X8_numberOf t1 m).bind fun p2 =>
      X8_putWord_J40 N r6 l0 l1 l2 l3 l6 (wL (l4 * 32)) p2 m
    )
  )
def X8_putWord_L6 (N : Nat) (k50 : Nat → Int → Int → Int → Mem → Option Mem) : Nat → Nat → Nat → Int → Int → Int → Int → Mem → Option Mem
  | 0 => fun _ _ _ _ _ _ _ => none
  | f + 1 => X8_putWord_L6_b N k50 (X8_putWord_L6 N k50 f)
def X8_putWord_J68 (N : Nat) (l0 : Nat) (l2 : Int) (l3 : Int) (l4 : Int) (s0 : Int) (m : Mem) : Option Mem :=
  if s0 = (-1) then (
    if 6 < (wI (l3 - l2)) then (
      (X8_put l0 6 l2 (wI (l2 + 6)) m).bind fun p10 =>
      some p10
    ) else (
      (X8_put l0 3 l2 (wI (lshr l4 5)) m).bind fun p11 =>
      some p11
    )
  ) else (
    (X8_put l0 2 l2 s0 m).bind fun p13 =>
    some p13
  )
def X8_putWord (N : Nat) (l0 : Nat) (l1 : Nat) (l2 : Int) (l3 : Int) (m : Mem) : Option Mem :=
  if shK l0 = 8 + 10 then (
    X8_putWord_L6 N (fun z5 z6 z7 z8 m9 =>
        if 7 < (wI (z7 - z6)) then (
          X8_putWord_J68 N z5 z6 z7 z8 (-1) m9
        ) else (
          (X8_ownWord N z5 z8 m9).bind fun p15 =>
          X8_putWord_J68 N z5 z6 z7 z8 p15 m9
        )) N l0 l1 l2 l3 0 0 m
  ) else none
-- DewBaron$Words.putNumber([III)V
def X8_putNumber_L24_b (N : Nat) (k51 : Nat → Int → Int → Mem → Option Mem) (r24 : Nat → Nat → Int → Int → Int → Int → Mem → Option Mem) (l0 : Nat) (l1 : Nat) (l2 : Int) (l3 : Int) (l4 : Int) (l5 : Int) (m : Mem) : Option Mem :=
  if l3 ≤ l5 then (
    k51 l0 l2 l4 m
  ) else (
    (aldI l1 l5 m).bind fun t1 =>
    r24 l0 l1 l2 l3 (wI ((wI ((wI (l4 * 10)) + t1)) - 48)) (wI (l5 + 1)) m
  )
def X8_putNumber_L24 (N : Nat) (k51 : Nat → Int → Int → Mem → Option Mem) : Nat → Nat → Nat → Int → Int → Int → Int → Mem → Option Mem
  | 0 => fun _ _ _ _ _ _ _ => none
  | f + 1 => X8_putNumber_L24_b N k51 (X8_putNumber_L24 N k51 f)
def X8_putNumber (N : Nat) (l0 : Nat) (l1 : Nat) (l2 : Int) (l3 : Int) (m : Mem) : Option Mem :=
  if shK l0 = 8 + 10 then (
    if (wI (l3 - l2)) ≤ 4 then (
      X8_putNumber_L24 N (fun z3 z4 z5 m6 =>
          (X8_put z3 1 z4 z5 m6).bind fun p7 =>
          some p7) N l0 l1 l2 l3 0 l2 m
    ) else (
      (X8_put l0 6 l2 (wI (l2 + 4)) m).bind fun p8 =>
      some p8
    )
  ) else none
-- DewBaron$Words.cutOne([III)I
def X8_cutOne_J57 (N : Nat) (r21 : Nat → Nat → Int → Int → Int → Int → Int → Mem → Option (Int × Mem)) (l0 : Nat) (l1 : Nat) (l2 : Int) (l3 : Int) (l4 : Int) (l5 : Int) (l6 : Int) (m : Mem) : Option (Int × Mem) :=
  r21 l0 l1 l2 l3 l4 l5 (wI (l6 + 1)) m
def X8_cutOne_J42 (N : Nat) (r21 : Nat → Nat → Int → Int → Int → Int → Int → Mem → Option (Int × Mem)) (k63 : Nat → Nat → Int → Int → Int → Int → Mem → Option (Int × Mem)) (l0 : Nat) (l1 : Nat) (l2 : Int) (l3 : Int) (l4 : Int) (l5 : Int) (l6 : Int) (m : Mem) : Option (Int × Mem) :=
  if l5 = 0 then (
    k63 l0 l1 l3 l4 l5 l6 m
  ) else (
    (aldI l1 l6 m).bind fun t5 =>
    (X8_isDigit t5 m).bind fun p6 =>
    if p6 = 0 then (
      k63 l0 l1 l3 l4 l5 l6 m
    ) else (
      X8_cutOne_J57 N r21 l0 l1 l2 l3 l4 l5 l6 m
    )
  )
def X8_cutOne_L21_b (N : Nat) (k63 : Nat → Nat → Int → Int → Int → Int → Mem → Option (Int × Mem)) (r21 : Nat → Nat → Int → Int → Int → Int → Int → Mem → Option (Int × Mem)) (l0 : Nat) (l1 : Nat) (l2 : Int) (l3 : Int) (l4 : Int) (l5 : Int) (l6 : Int) (m : Mem) : Option (Int × Mem) :=
  if l2 ≤ l6 then (
    k63 l0 l1 l3 l4 l5 l6 m
  ) else (
    if l4 = 0 then (
      X8_cutOne_J42 N r21 k63 l0 l1 l2 l3 l4 l5 l6 m
    ) else (
      (aldI l1 l6 m).bind fun t9 =>
      (X8_isLetter t9 m).bind fun p10 =>
      if ¬ p10 = 0 then (
        X8_cutOne_J57 N r21 l0 l1 l2 l3 l4 l5 l6 m
      ) else (
        X8_cutOne_J42 N r21 k63 l0 l1 l2 l3 l4 l5 l6 m
      )
    )
  )
def X8_cutOne_L21 (N : Nat) (k63 : Nat → Nat → Int → Int → Int → Int → Mem → Option (Int × Mem)) : Nat → Nat → Nat → Int → Int → Int → Int → Int → Mem → Option (Int × Mem)
  | 0 => fun _ _ _ _ _ _ _ _ => none
  | f + 1 => X8_cutOne_L21_b N k63 (X8_cutOne_L21 N k63 f)
def X8_cutOne_J150 (N : Nat) (l0 : Nat) (l1 : Nat) (l3 : Int) (l4 : Int) (l5 : Int) (l6 : Int) (m : Mem) : Option (Int × Mem) :=
  if l4 = 0 then (
    if l5 = 0 then (
      (aldI l1 l3 m).bind fun t22 =>
      (X8_put l0 5 l3 t22 m).bind fun p23 =>
      some (l6, p23)
    ) else (
      (X8_putNumber N l0 l1 l3 l6 m).bind fun p24 =>
      some (l6, p24)
    )
  ) else (
    (X8_putWord N l0 l1 l3 l6 m).bind fun p26 =>
    some (l6, p26)
  )
def X8_cutOne_J139 (N : Nat) (l0 : Nat) (l1 : Nat) (l3 : Int) (l6 : Int) (m : Mem) : Option (Int × Mem) :=
  (X8_putLetters N l0 l1 l3 l6 m).bind fun p28 =>
  some (l6, p28)
def X8_cutOne_J104 (N : Nat) (l0 : Nat) (l1 : Nat) (l3 : Int) (l4 : Int) (l5 : Int) (l6 : Int) (s0 : Int) (m : Mem) : Option (Int × Mem) :=
  if s0 = 0 then (
    (getI 8 4 l0 m).bind fun t21 =>
    if t21 = 0 then (
      X8_cutOne_J150 N l0 l1 l3 l4 l5 l6 m
    ) else (
      if ¬ l4 = 0 then (
        X8_cutOne_J139 N l0 l1 l3 l6 m
      ) else (
        if l5 = 0 then (
          X8_cutOne_J150 N l0 l1 l3 l4 l5 l6 m
        ) else (
          X8_cutOne_J139 N l0 l1 l3 l6 m
        )
      )
    )
  ) else (
    (X8_put l0 6 l3 l3 m).bind fun p32 =>
    some (l6, p32)
  )
def X8_cutOne_J103 (N : Nat) (l0 : Nat) (l1 : Nat) (l3 : Int) (l4 : Int) (l5 : Int) (l6 : Int) (m : Mem) : Option (Int × Mem) :=
  X8_cutOne_J104 N l0 l1 l3 l4 l5 l6 0 m
def X8_cutOne_J99 (N : Nat) (l0 : Nat) (l1 : Nat) (l3 : Int) (l4 : Int) (l5 : Int) (l6 : Int) (m : Mem) : Option (Int × Mem) :=
  X8_cutOne_J104 N l0 l1 l3 l4 l5 l6 1 m
def X8_cutOne_J83 (N : Nat) (l0 : Nat) (l1 : Nat) (l3 : Int) (l4 : Int) (l5 : Int) (l6 : Int) (m : Mem) : Option (Int × Mem) :=
  if l5 = 0 then (
    X8_cutOne_J103 N l0 l1 l3 l4 l5 l6 m
  ) else (
    (aldI l1 (wI (l3 - 1)) m).bind fun t34 =>
    (X8_isLetter t34 m).bind fun p35 =>
    if p35 = 0 then (
      X8_cutOne_J103 N l0 l1 l3 l4 l5 l6 m
    ) else (
      X8_cutOne_J99 N l0 l1 l3 l4 l5 l6 m
    )
  )
def X8_cutOne (N : Nat) (l0 : Nat) (l1 : Nat) (l2 : Int) (l3 : Int) (m : Mem) : Option (Int × Mem) :=
  if shK l0 = 8 + 10 then (
    (aldI l1 l3 m).bind fun t1 =>
    (X8_isLetter t1 m).bind fun p2 =>
    (aldI l1 l3 m).bind fun t3 =>
    (X8_isDigit t3 m).bind fun p4 =>
    X8_cutOne_L21 N (fun z14 z15 z16 z17 z18 z19 m20 =>
        if z16 ≤ 0 then (
          X8_cutOne_J103 N z14 z15 z16 z17 z18 z19 m20
        ) else (
          if z17 = 0 then (
            X8_cutOne_J83 N z14 z15 z16 z17 z18 z19 m20
          ) else (
            (aldI z15 (wI (z16 - 1)) m20).bind fun t38 =>
            (X8_isDigit t38 m20).bind fun p39 =>
            if ¬ p39 = 0 then (
              X8_cutOne_J99 N z14 z15 z16 z17 z18 z19 m20
            ) else (
              X8_cutOne_J83 N z14 z15 z16 z17 z18 z19 m20
            )
          )
        )) N l0 l1 l2 l3 p2 p4 (wI (l3 + 1)) m
  ) else none
-- DewBaron$Words.cut([II)V
def X8_cut_J62 (N : Nat) (r20 : Nat → Nat → Int → Int → Int → Mem → Option Mem) (l0 : Nat) (l1 : Nat) (l2 : Int) (l4 : Int) (s0 : Int) (m : Mem) : Option Mem :=
  r20 l0 l1 l2 s0 (wI (l4 + 1)) m
def X8_cut_L20_b (N : Nat) (k69 : Nat → Int → Mem → Option Mem) (r20 : Nat → Nat → Int → Int → Int → Mem → Option Mem) (l0 : Nat) (l1 : Nat) (l2 : Int) (l3 : Int) (l4 : Int) (m : Mem) : Option Mem :=
  if l2 ≤ l4 then (
    k69 l0 l2 m
  ) else (
    if l2 ≤ l3 then (
      k69 l0 l2 m
    ) else (
      (getI 8 3 l0 m).bind fun t4 =>
      if t4 = 6 then (
        k69 l0 l2 m
      ) else (
        (aldI l1 l3 m).bind fun t5 =>
        (X8_isBlank t5 m).bind fun p6 =>
        if p6 = 0 then (
          (X8_cutOne N l0 l1 l2 l3 m).bind fun p7 =>
          X8_cut_J62 N r20 l0 l1 l2 l4 p7.1 p7.2
        ) else (
          X8_cut_J62 N r20 l0 l1 l2 l4 (wI (l3 + 1)) m
        )
      )
    )
  )
def X8_cut_L20 (N : Nat) (k69 : Nat → Int → Mem → Option Mem) : Nat → Nat → Nat → Int → Int → Int → Mem → Option Mem
  | 0 => fun _ _ _ _ _ _ => none
  | f + 1 => X8_cut_L20_b N k69 (X8_cut_L20 N k69 f)
def X8_cut (N : Nat) (l0 : Nat) (l1 : Nat) (l2 : Int) (m : Mem) : Option Mem :=
  if shK l0 = 8 + 10 then (
    (putI 8 2 l0 0 m).bind fun m1 =>
    (putI 8 3 l0 0 m1).bind fun m2 =>
    (putZ 8 4 l0 0 m2).bind fun m3 =>
    X8_cut_L20 N (fun z12 z13 m14 =>
        (getI 8 3 z12 m14).bind fun t15 =>
        if t15 = 6 then (
          some m14
        ) else (
          (X8_put z12 0 z13 z13 m14).bind fun p16 =>
          some p16
        )) N l0 l1 l2 0 0 m3
  ) else none
-- DewBaron$Land.clear()V
def X1_clear (N : Nat) (l0 : Nat) (m : Mem) : Option Mem :=
  if shK l0 = 1 + 10 then (
    (getR 1 0 l0 m).bind fun t1 =>
    (J7_fill_53178 N t1 0 m).bind fun p2 =>
    (getR 1 1 l0 p2).bind fun t3 =>
    (J7_fill_53178 N t3 0 p2).bind fun p4 =>
    (getR 1 2 l0 p4).bind fun t5 =>
    (J7_fill_53178 N t5 0 p4).bind fun p6 =>
    (putI 1 3 l0 0 p6).bind fun m7 =>
    some m7
  ) else none
-- DewBaron$Sums.clear()V
def X7_clear (N : Nat) (l0 : Nat) (m : Mem) : Option Mem :=
  if shK l0 = 7 + 10 then (
    (putI 7 1 l0 0 m).bind fun m1 =>
    (getR 7 3 l0 m1).bind fun t2 =>
    (J7_fill_53178 N t2 0 m1).bind fun p3 =>
    (getR 7 4 l0 p3).bind fun t4 =>
    (J7_fill_53178 N t4 0 p3).bind fun p5 =>
    some p5
  ) else none
-- DewBaron$Plan.clear()V
def X5_clear (N : Nat) (l0 : Nat) (m : Mem) : Option Mem :=
  if shK l0 = 5 + 10 then (
    (putI 5 0 l0 0 m).bind fun m1 =>
    (putI 5 1 l0 0 m1).bind fun m2 =>
    (getR 5 3 l0 m2).bind fun t3 =>
    (J7_fill_53178 N t3 0 m2).bind fun p4 =>
    (getR 5 4 l0 p4).bind fun t5 =>
    (J7_fill_53178 N t5 0 p4).bind fun p6 =>
    (getR 5 5 l0 p6).bind fun t7 =>
    (X1_clear N t7 p6).bind fun p8 =>
    (putI 5 6 l0 0 p8).bind fun m9 =>
    (putI 5 9 l0 0 m9).bind fun m10 =>
    (putI 5 12 l0 0 m10).bind fun m11 =>
    (getR 5 15 l0 m11).bind fun t12 =>
    (J7_fill_53178 N t12 0 m11).bind fun p13 =>
    (getR 5 16 l0 p13).bind fun t14 =>
    (X7_clear N t14 p13).bind fun p15 =>
    (putI 5 17 l0 0 p15).bind fun m16 =>
    (putI 5 18 l0 0 m16).bind fun m17 =>
    (putI 5 19 l0 5 m17).bind fun m18 =>
    some m18
  ) else none
-- DewBaron$Reader.goTo(I)Z
def X6_goTo_J38 (l0 : Nat) (l1 : Int) (s0 : Int) (m : Mem) : Option (Int × Mem) :=
  (putI 6 1 l0 l1 m).bind fun m1 =>
  (putI 6 2 l0 (iand (wI s0) 7) m1).bind fun m2 =>
  (putI 6 3 l0 (iand (wI (lshr s0 3)) 2047) m2).bind fun m3 =>
  (putI 6 4 l0 (wI (lshr s0 14)) m3).bind fun m4 =>
  (retZ 1).bind fun r5 => some (r5, m4)
def X6_goTo_J20 (l0 : Nat) (l1 : Int) (s0 : Int) (m : Mem) : Option (Int × Mem) :=
  if s0 = 0 then (
    X6_goTo_J38 l0 l1 0 m
  ) else (
    (getR 6 0 l0 m).bind fun t6 =>
    (getR 8 1 t6 m).bind fun t7 =>
    (aldL t7 l1 m).bind fun t8 =>
    X6_goTo_J38 l0 l1 t8 m
  )
def X6_goTo_J19 (l0 : Nat) (l1 : Int) (m : Mem) : Option (Int × Mem) :=
  X6_goTo_J20 l0 l1 0 m
def X6_goTo (l0 : Nat) (l1 : Int) (m : Mem) : Option (Int × Mem) :=
  if shK l0 = 6 + 10 then (
    if l1 < 0 then (
      X6_goTo_J19 l0 l1 m
    ) else (
      (getR 6 0 l0 m).bind fun t10 =>
      (getI 8 2 t10 m).bind fun t11 =>
      if t11 ≤ l1 then (
        X6_goTo_J19 l0 l1 m
      ) else (
        X6_goTo_J20 l0 l1 1 m
      )
    )
  ) else none
-- DewBaron$Reader.unexpected()Z
def X6_unexpected_J26 (s0 : Nat) (s1 : Int) (m : Mem) : Option (Int × Mem) :=
  (putI 6 10 s0 s1 m).bind fun m4 =>
  (retZ 0).bind fun r5 => some (r5, m4)
def X6_unexpected (l0 : Nat) (m : Mem) : Option (Int × Mem) :=
  if shK l0 = 6 + 10 then (
    (putI 6 9 l0 1 m).bind fun m1 =>
    (getI 6 2 l0 m1).bind fun t2 =>
    if ¬ t2 = 6 then (
      (getI 6 3 l0 m1).bind fun t3 =>
      X6_unexpected_J26 l0 t3 m1
    ) else (
      (getI 6 4 l0 m1).bind fun t6 =>
      X6_unexpected_J26 l0 t6 m1
    )
  ) else none
-- DewBaron$Reader.word(I)Z
def X6_word_J29 (l0 : Nat) (m : Mem) : Option (Int × Mem) :=
  (X6_unexpected l0 m).bind fun p2 =>
  (retZ p2.1).bind fun r3 => some (r3, p2.2)
def X6_word (l0 : Nat) (l1 : Int) (m : Mem) : Option (Int × Mem) :=
  if shK l0 = 6 + 10 then (
    (getI 6 2 l0 m).bind fun t1 =>
    if ¬ t1 = 2 then (
      X6_word_J29 l0 m
    ) else (
      (getI 6 4 l0 m).bind fun t4 =>
      if ¬ t4 = l1 then (
        X6_word_J29 l0 m
      ) else (
        (getI 6 1 l0 m).bind fun t5 =>
        (X6_goTo l0 (wI (t5 + 1)) m).bind fun p6 =>
        (retZ p6.1).bind fun r7 => some (r7, p6.2)
      )
    )
  ) else none
-- DewBaron$Reader.refuse(II)Z
def X6_refuse (l0 : Nat) (l1 : Int) (l2 : Int) (m : Mem) : Option (Int × Mem) :=
  if shK l0 = 6 + 10 then (
    (putI 6 9 l0 l1 m).bind fun m1 =>
    (putI 6 10 l0 l2 m1).bind fun m2 =>
    (retZ 0).bind fun r3 => some (r3, m2)
  ) else none
-- DewBaron$Reader.number(II)Z
def X6_number_J45 (l0 : Nat) (m : Mem) : Option (Int × Mem) :=
  (getI 6 3 l0 m).bind fun t7 =>
  (X6_refuse l0 4 t7 m).bind fun p8 =>
  (retZ p8.1).bind fun r9 => some (r9, p8.2)
def X6_number (l0 : Nat) (l1 : Int) (l2 : Int) (m : Mem) : Option (Int × Mem) :=
  if shK l0 = 6 + 10 then (
    (getI 6 2 l0 m).bind fun t1 =>
    if t1 = 1 then (
      (getI 6 4 l0 m).bind fun t2 =>
      (putI 6 5 l0 t2 m).bind fun m3 =>
      (getI 6 3 l0 m3).bind fun t4 =>
      (putI 6 6 l0 t4 m3).bind fun m5 =>
      (getI 6 5 l0 m5).bind fun t6 =>
      if t6 < l1 then (
        X6_number_J45 l0 m5
      ) else (
        (getI 6 5 l0 m5).bind fun t10 =>
        if t10 ≤ l2 then (
          (getI 6 1 l0 m5).bind fun t11 =>
          (X6_goTo l0 (wI (t11 + 1)) m5).bind fun p12 =>
          (retZ p12.1).bind fun r13 => some (r13, p12.2)
        ) else (
          X6_number_J45 l0 m5
        )
      )
    ) else (
      (X6_unexpected l0 m).bind fun p16 =>
      (retZ p16.1).bind fun r17 => some (r17, p16.2)
    )
  ) else none
-- DewBaron$Plan.spread(II)V
def X5_spread_L34_b (N : Nat) (k84 : Nat → Int → Mem → Option Mem) (r34 : Nat → Int → Int → Mem → Option Mem) (l0 : Nat) (l3 : Int) (l4 : Int) (m : Mem) : Option Mem :=
  if 8 ≤ l4 then (
    k84 l0 l3 m
  ) else (
    (getR 5 2 l0 m).bind fun t5 =>
    (aldR t5 l4 m).bind fun t6 =>
    (X5_acrossOf l0 l3 m).bind fun p7 =>
    (aldI 1 l4 m).bind fun t8 =>
    (X5_downOf l0 l3 m).bind fun p9 =>
    (aldI 2 l4 m).bind fun t10 =>
    (X5_cellAt l0 (wI (p7 + t8)) (wI (p9 + t10)) m).bind fun p11 =>
    (astI t6 l3 p11 m).bind fun m12 =>
    r34 l0 l3 (wI (l4 + 1)) m12
  )
def X5_spread_L34 (N : Nat) (k84 : Nat → Int → Mem → Option Mem) : Nat → Nat → Int → Int → Mem → Option Mem
  | 0 => fun _ _ _ _ => none
  | f + 1 => X5_spread_L34_b N k84 (X5_spread_L34 N k84 f)
def X5_spread_L12_b (N : Nat) (r12 : Nat → Int → Mem → Option Mem) (l0 : Nat) (l3 : Int) (m : Mem) : Option Mem :=
  (getI 5 0 l0 m).bind fun t3 =>
  (getI 5 1 l0 m).bind fun t4 =>
  if (wI (t3 * t4)) ≤ l3 then (
    some m
  ) else (
    if 42 ≤ l3 then (
      some m
    ) else (
      X5_spread_L34 N (fun z14 z15 m16 =>
          r12 z14 (wI (z15 + 1)) m16) N l0 l3 0 m
    )
  )
def X5_spread_L12 (N : Nat) : Nat → Nat → Int → Mem → Option Mem
  | 0 => fun _ _ _ => none
  | f + 1 => X5_spread_L12_b N (X5_spread_L12 N f)
def X5_spread (N : Nat) (l0 : Nat) (l1 : Int) (l2 : Int) (m : Mem) : Option Mem :=
  if shK l0 = 5 + 10 then (
    (putI 5 0 l0 l1 m).bind fun m1 =>
    (putI 5 1 l0 l2 m1).bind fun m2 =>
    X5_spread_L12 N N l0 0 m2
  ) else none
-- DewBaron$Reader.size(LDewBaron$Plan;)Z
def X6_size (N : Nat) (l0 : Nat) (l1 : Nat) (m : Mem) : Option (Int × Mem) :=
  if shK l0 = 6 + 10 then (
    (X6_word l0 0 m).bind fun p1 =>
    if p1.1 = 0 then (
      (retZ 0).bind fun r2 => some (r2, p1.2)
    ) else (
      (X6_number l0 2 7 p1.2).bind fun p3 =>
      if ¬ p3.1 = 0 then (
        (getI 6 5 l0 p3.2).bind fun t4 =>
        (X6_number l0 2 6 p3.2).bind fun p5 =>
        if ¬ p5.1 = 0 then (
          (getI 6 5 l0 p5.2).bind fun t6 =>
          (X5_spread N l1 t4 t6 p5.2).bind fun p7 =>
          (retZ 1).bind fun r8 => some (r8, p7)
        ) else (
          (retZ 0).bind fun r9 => some (r9, p5.2)
        )
      ) else (
        (retZ 0).bind fun r11 => some (r11, p3.2)
      )
    )
  ) else none
-- DewBaron$Reader.sign(C)Z
def X6_sign_J29 (l0 : Nat) (m : Mem) : Option (Int × Mem) :=
  (X6_unexpected l0 m).bind fun p2 =>
  (retZ p2.1).bind fun r3 => some (r3, p2.2)
def X6_sign (l0 : Nat) (l1 : Int) (m : Mem) : Option (Int × Mem) :=
  if shK l0 = 6 + 10 then (
    (getI 6 2 l0 m).bind fun t1 =>
    if ¬ t1 = 5 then (
      X6_sign_J29 l0 m
    ) else (
      (getI 6 4 l0 m).bind fun t4 =>
      if ¬ t4 = l1 then (
        X6_sign_J29 l0 m
      ) else (
        (getI 6 1 l0 m).bind fun t5 =>
        (X6_goTo l0 (wI (t5 + 1)) m).bind fun p6 =>
        (retZ p6.1).bind fun r7 => some (r7, p6.2)
      )
    )
  ) else none
-- DewBaron$Reader.close()Z
def X6_close (l0 : Nat) (m : Mem) : Option (Int × Mem) :=
  if shK l0 = 6 + 10 then (
    (getI 6 11 l0 m).bind fun t1 =>
    (putI 6 11 l0 (wI (t1 + 1)) m).bind fun m2 =>
    (X6_sign l0 59 m2).bind fun p3 =>
    (retZ p3.1).bind fun r4 => some (r4, p3.2)
  ) else none
-- DewBaron$Reader.isOneTooMany(LDewBaron$Plan;I)Z
def X6_isOneTooMany_J103 (N : Nat) (l0 : Nat) (m : Mem) : Option Int :=
  (getI 5 9 l0 m).bind fun t11 =>
  if t11 < 10 then (
    retZ 0
  ) else (
    retZ 1
  )
def X6_isOneTooMany (N : Nat) (l0 : Nat) (l1 : Int) (m : Mem) : Option Int :=
  if l1 = 3 then (
    (getR 5 5 l0 m).bind fun t1 =>
    (X1_walls N t1 m).bind fun p2 =>
    if p2 < 12 then (
      retZ 0
    ) else (
      retZ 1
    )
  ) else
  if l1 = 4 then (
    (X5_houses N l0 m).bind fun p5 =>
    if p5 < 6 then (
      retZ 0
    ) else (
      retZ 1
    )
  ) else
  if l1 = 5 then (
    (getI 5 6 l0 m).bind fun t8 =>
    if t8 < 5 then (
      retZ 0
    ) else (
      retZ 1
    )
  ) else
  if l1 = 6 then (
    X6_isOneTooMany_J103 N l0 m
  ) else
  if l1 = 7 then (
    retZ 0
  ) else
  if l1 = 8 then (
    X6_isOneTooMany_J103 N l0 m
  ) else
  if l1 = 9 then (
    X6_isOneTooMany_J103 N l0 m
  ) else
  if l1 = 10 then (
    retZ 0
  ) else
  if l1 = 11 then (
    (getR 5 16 l0 m).bind fun t18 =>
    (X7_isTold t18 0 m).bind fun p19 =>
    retZ p19
  ) else
  if l1 = 12 then (
    (getR 5 16 l0 m).bind fun t21 =>
    (X7_isTold t21 1 m).bind fun p22 =>
    retZ p22
  ) else
  retZ 0
-- DewBaron$Reader.spot(LDewBaron$Plan;Z)Z
def X6_spot_J88 (N : Nat) (l0 : Nat) (m : Mem) : Option (Int × Mem) :=
  (getI 6 6 l0 m).bind fun t13 =>
  (X6_refuse l0 4 t13 m).bind fun p14 =>
  (retZ p14.1).bind fun r15 => some (r15, p14.2)
def X6_spot (N : Nat) (l0 : Nat) (l1 : Nat) (l2 : Int) (m : Mem) : Option (Int × Mem) :=
  if shK l0 = 6 + 10 then (
    (X6_word l0 2 m).bind fun p1 =>
    if p1.1 = 0 then (
      (retZ 0).bind fun r2 => some (r2, p1.2)
    ) else (
      (getI 5 0 l1 p1.2).bind fun t3 =>
      (X6_number l0 0 (wI (t3 - 1)) p1.2).bind fun p4 =>
      if ¬ p4.1 = 0 then (
        (getI 6 5 l0 p4.2).bind fun t5 =>
        (getI 5 1 l1 p4.2).bind fun t6 =>
        (X6_number l0 0 (wI (t6 - 1)) p4.2).bind fun p7 =>
        if ¬ p7.1 = 0 then (
          (getI 6 5 l0 p7.2).bind fun t8 =>
          (X5_cellAt l1 t5 t8 p7.2).bind fun p9 =>
          (putI 6 8 l0 p9 p7.2).bind fun m10 =>
          (getI 6 8 l0 m10).bind fun t11 =>
          (X5_isCell l1 t11 m10).bind fun p12 =>
          if p12 = 0 then (
            X6_spot_J88 N l0 m10
          ) else (
            if l2 = 0 then (
              (retZ 1).bind fun r16 => some (r16, m10)
            ) else (
              (getR 5 5 l1 m10).bind fun t17 =>
              (getI 6 8 l0 m10).bind fun t18 =>
              (X5_contents N l1 t17 t18 m10).bind fun p19 =>
              if p19 = 0 then (
                (retZ 1).bind fun r20 => some (r20, m10)
              ) else (
                X6_spot_J88 N l0 m10
              )
            )
          )
        ) else (
          (retZ 0).bind fun r24 => some (r24, p7.2)
        )
      ) else (
        (retZ 0).bind fun r26 => some (r26, p4.2)
      )
    )
  ) else none
-- DewBaron$Reader.height(LDewBaron$Plan;)Z
def X6_height (N : Nat) (l0 : Nat) (l1 : Nat) (m : Mem) : Option (Int × Mem) :=
  if shK l0 = 6 + 10 then (
    (X6_number l0 0 9 m).bind fun p1 =>
    if ¬ p1.1 = 0 then (
      (getI 6 5 l0 p1.2).bind fun t2 =>
      (X6_spot N l0 l1 0 p1.2).bind fun p3 =>
      if ¬ p3.1 = 0 then (
        (getR 5 3 l1 p3.2).bind fun t4 =>
        (getI 6 8 l0 p3.2).bind fun t5 =>
        (astI t4 t5 t2 p3.2).bind fun m6 =>
        (retZ 1).bind fun r7 => some (r7, m6)
      ) else (
        (retZ 0).bind fun r8 => some (r8, p3.2)
      )
    ) else (
      (retZ 0).bind fun r10 => some (r10, p1.2)
    )
  ) else none
-- DewBaron$Reader.wallOf(LDewBaron$Plan;)Z
def X6_wallOf (N : Nat) (l0 : Nat) (l1 : Nat) (m : Mem) : Option (Int × Mem) :=
  if shK l0 = 6 + 10 then (
    (X6_spot N l0 l1 1 m).bind fun p1 =>
    if ¬ p1.1 = 0 then (
      (getR 5 5 l1 p1.2).bind fun t2 =>
      (getR 1 0 t2 p1.2).bind fun t3 =>
      (getI 6 8 l0 p1.2).bind fun t4 =>
      (astI t3 t4 1 p1.2).bind fun m5 =>
      (retZ 1).bind fun r6 => some (r6, m5)
    ) else (
      (retZ 0).bind fun r7 => some (r7, p1.2)
    )
  ) else none
-- DewBaron$Reader.house(LDewBaron$Plan;)Z
def X6_house (N : Nat) (l0 : Nat) (l1 : Nat) (m : Mem) : Option (Int × Mem) :=
  if shK l0 = 6 + 10 then (
    (X6_spot N l0 l1 1 m).bind fun p1 =>
    if ¬ p1.1 = 0 then (
      (getR 5 4 l1 p1.2).bind fun t2 =>
      (getI 6 8 l0 p1.2).bind fun t3 =>
      (astI t2 t3 1 p1.2).bind fun m4 =>
      (retZ 1).bind fun r5 => some (r5, m4)
    ) else (
      (retZ 0).bind fun r6 => some (r6, p1.2)
    )
  ) else none
-- DewBaron$Plan.knows(I)Z
def X5_knows_L2_b (N : Nat) (k28 : Nat → Int → Option Int) (m : Mem) (r2 : Nat → Int → Int → Option Int) (l0 : Nat) (l1 : Int) (l2 : Int) : Option Int :=
  (getI 5 6 l0 m).bind fun t1 =>
  if t1 ≤ l2 then (
    k28 l0 l1
  ) else (
    (getR 5 8 l0 m).bind fun t2 =>
    (aldI t2 l2 m).bind fun t3 =>
    if ¬ t3 = l1 then (
      r2 l0 l1 (wI (l2 + 1))
    ) else (
      retZ 1
    )
  )
def X5_knows_L2 (N : Nat) (k28 : Nat → Int → Option Int) (m : Mem) : Nat → Nat → Int → Int → Option Int
  | 0 => fun _ _ _ => none
  | f + 1 => X5_knows_L2_b N k28 m (X5_knows_L2 N k28 m f)
def X5_knows_L30_b (N : Nat) (m : Mem) (r30 : Nat → Int → Int → Option Int) (l0 : Nat) (l1 : Int) (l2 : Int) : Option Int :=
  (getI 5 12 l0 m).bind fun t8 =>
  if t8 ≤ l2 then (
    retZ 0
  ) else (
    (getR 5 14 l0 m).bind fun t9 =>
    (aldI t9 l2 m).bind fun t10 =>
    if ¬ t10 = l1 then (
      r30 l0 l1 (wI (l2 + 1))
    ) else (
      retZ 1
    )
  )
def X5_knows_L30 (N : Nat) (m : Mem) : Nat → Nat → Int → Int → Option Int
  | 0 => fun _ _ _ => none
  | f + 1 => X5_knows_L30_b N m (X5_knows_L30 N m f)
def X5_knows (N : Nat) (l0 : Nat) (l1 : Int) (m : Mem) : Option Int :=
  if shK l0 = 5 + 10 then (
    X5_knows_L2 N (fun z6 z7 =>
        X5_knows_L30 N m N z6 z7 0) m N l0 l1 0
  ) else none
-- DewBaron$Reader.name(LDewBaron$Plan;)Z
def X6_name (N : Nat) (l0 : Nat) (l1 : Nat) (m : Mem) : Option (Int × Mem) :=
  if shK l0 = 6 + 10 then (
    (getI 6 2 l0 m).bind fun t1 =>
    if t1 = 3 then (
      (getI 6 4 l0 m).bind fun t2 =>
      (putI 6 7 l0 t2 m).bind fun m3 =>
      (getI 6 7 l0 m3).bind fun t4 =>
      (X5_knows N l1 t4 m3).bind fun p5 =>
      if p5 = 0 then (
        (getI 6 1 l0 m3).bind fun t6 =>
        (X6_goTo l0 (wI (t6 + 1)) m3).bind fun p7 =>
        (retZ p7.1).bind fun r8 => some (r8, p7.2)
      ) else (
        (getI 6 3 l0 m3).bind fun t9 =>
        (X6_refuse l0 2 t9 m3).bind fun p10 =>
        (retZ p10.1).bind fun r11 => some (r11, p10.2)
      )
    ) else (
      (X6_unexpected l0 m).bind fun p13 =>
      (retZ p13.1).bind fun r14 => some (r14, p13.2)
    )
  ) else none
-- DewBaron$Plan.addCistern(II)V
def X5_addCistern (l0 : Nat) (l1 : Int) (l2 : Int) (m : Mem) : Option Mem :=
  if shK l0 = 5 + 10 then (
    (getI 5 6 l0 m).bind fun t1 =>
    if 5 ≤ t1 then (
      some m
    ) else (
      (getR 5 8 l0 m).bind fun t2 =>
      (getI 5 6 l0 m).bind fun t3 =>
      (astI t2 t3 l1 m).bind fun m4 =>
      (getR 5 7 l0 m4).bind fun t5 =>
      (getI 5 6 l0 m4).bind fun t6 =>
      (astI t5 t6 l2 m4).bind fun m7 =>
      (getI 5 6 l0 m7).bind fun t8 =>
      (putI 5 6 l0 (wI (t8 + 1)) m7).bind fun m9 =>
      some m9
    )
  ) else none
-- DewBaron$Reader.cisternOf(LDewBaron$Plan;)Z
def X6_cisternOf (N : Nat) (l0 : Nat) (l1 : Nat) (m : Mem) : Option (Int × Mem) :=
  if shK l0 = 6 + 10 then (
    (X6_name N l0 l1 m).bind fun p1 =>
    if p1.1 = 0 then (
      (retZ 0).bind fun r2 => some (r2, p1.2)
    ) else (
      (X6_spot N l0 l1 1 p1.2).bind fun p3 =>
      if ¬ p3.1 = 0 then (
        (getI 6 7 l0 p3.2).bind fun t4 =>
        (getI 6 8 l0 p3.2).bind fun t5 =>
        (X5_addCistern l1 t4 t5 p3.2).bind fun p6 =>
        (retZ 1).bind fun r7 => some (r7, p6)
      ) else (
        (retZ 0).bind fun r8 => some (r8, p3.2)
      )
    )
  ) else none
-- DewBaron$Plan.addThing(III)V
def X5_addThing (l0 : Nat) (l1 : Int) (l2 : Int) (l3 : Int) (m : Mem) : Option Mem :=
  if shK l0 = 5 + 10 then (
    (getI 5 9 l0 m).bind fun t1 =>
    if 10 ≤ t1 then (
      some m
    ) else (
      (getR 5 11 l0 m).bind fun t2 =>
      (getI 5 9 l0 m).bind fun t3 =>
      (astI t2 t3 l1 m).bind fun m4 =>
      (getR 5 10 l0 m4).bind fun t5 =>
      (getI 5 9 l0 m4).bind fun t6 =>
      (astI t5 t6 l2 m4).bind fun m7 =>
      (getR 5 5 l0 m7).bind fun t8 =>
      (getR 1 1 t8 m7).bind fun t9 =>
      (getI 5 9 l0 m7).bind fun t10 =>
      (astI t9 t10 l3 m7).bind fun m11 =>
      (getI 5 9 l0 m11).bind fun t12 =>
      (putI 5 9 l0 (wI (t12 + 1)) m11).bind fun m13 =>
      some m13
    )
  ) else none
-- DewBaron$Plan.addCloth(I)V
def X5_addCloth (l0 : Nat) (l1 : Int) (m : Mem) : Option Mem :=
  if shK l0 = 5 + 10 then (
    (getI 5 12 l0 m).bind fun t1 =>
    if 10 ≤ t1 then (
      some m
    ) else (
      (getI 5 9 l0 m).bind fun t2 =>
      if t2 ≤ 0 then (
        some m
      ) else (
        (getR 5 13 l0 m).bind fun t3 =>
        (getI 5 12 l0 m).bind fun t4 =>
        (getI 5 9 l0 m).bind fun t5 =>
        (astI t3 t4 (wI (t5 - 1)) m).bind fun m6 =>
        (getR 5 14 l0 m6).bind fun t7 =>
        (getI 5 12 l0 m6).bind fun t8 =>
        (astI t7 t8 l1 m6).bind fun m9 =>
        (getI 5 12 l0 m9).bind fun t10 =>
        (putI 5 12 l0 (wI (t10 + 1)) m9).bind fun m11 =>
        some m11
      )
    )
  ) else none
-- DewBaron$Reader.thingOf(LDewBaron$Plan;I)Z
def X6_thingOf (N : Nat) (l0 : Nat) (l1 : Nat) (l2 : Int) (m : Mem) : Option (Int × Mem) :=
  if shK l0 = 6 + 10 then (
    (X6_word l0 7 m).bind fun p1 =>
    if p1.1 = 0 then (
      (retZ 0).bind fun r2 => some (r2, p1.2)
    ) else (
      (X6_number l0 1 9 p1.2).bind fun p3 =>
      if ¬ p3.1 = 0 then (
        (getI 6 5 l0 p3.2).bind fun t4 =>
        (X6_spot N l0 l1 1 p3.2).bind fun p5 =>
        if ¬ p5.1 = 0 then (
          (getI 6 8 l0 p5.2).bind fun t6 =>
          (X5_addThing l1 l2 t4 t6 p5.2).bind fun p7 =>
          if ¬ l2 = 0 then (
            (retZ 1).bind fun r8 => some (r8, p7)
          ) else (
            (getI 6 7 l0 p7).bind fun t9 =>
            (X5_addCloth l1 t9 p7).bind fun p10 =>
            (retZ 1).bind fun r11 => some (r11, p10)
          )
        ) else (
          (retZ 0).bind fun r13 => some (r13, p5.2)
        )
      ) else (
        (retZ 0).bind fun r15 => some (r15, p3.2)
      )
    )
  ) else none
-- DewBaron$Reader.letters(LDewBaron$Plan;)Z
def X6_letters_L15_b (N : Nat) (k45 : Nat → Mem → Option (Int × Mem)) (r15 : Nat → Nat → Int → Mem → Option (Int × Mem)) (l0 : Nat) (l1 : Nat) (l2 : Int) (m : Mem) : Option (Int × Mem) :=
  if 12 < l2 then (
    k45 l0 m
  ) else (
    (getR 5 15 l1 m).bind fun t2 =>
    (getI 6 4 l0 m).bind fun t3 =>
    (astI t2 l2 (iand (ishr t3 (wI (2 * (wI (l2 - 1))))) 3) m).bind fun m4 =>
    r15 l0 l1 (wI (l2 + 1)) m4
  )
def X6_letters_L15 (N : Nat) (k45 : Nat → Mem → Option (Int × Mem)) : Nat → Nat → Nat → Int → Mem → Option (Int × Mem)
  | 0 => fun _ _ _ _ => none
  | f + 1 => X6_letters_L15_b N k45 (X6_letters_L15 N k45 f)
def X6_letters (N : Nat) (l0 : Nat) (l1 : Nat) (m : Mem) : Option (Int × Mem) :=
  if shK l0 = 6 + 10 then (
    (getI 6 2 l0 m).bind fun t1 =>
    if t1 = 4 then (
      X6_letters_L15 N (fun z6 m7 =>
          (getI 6 1 z6 m7).bind fun t8 =>
          (X6_goTo z6 (wI (t8 + 1)) m7).bind fun p9 =>
          (retZ p9.1).bind fun r10 => some (r10, p9.2)) N l0 l1 1 m
    ) else (
      (X6_unexpected l0 m).bind fun p11 =>
      (retZ p11.1).bind fun r12 => some (r12, p11.2)
    )
  ) else none
-- DewBaron$Sums.begin(I)Z
def X7_begin (l0 : Nat) (l1 : Int) (m : Mem) : Option (Int × Mem) :=
  if shK l0 = 7 + 10 then (
    if l1 < 0 then (
      (retZ 1).bind fun r1 => some (r1, m)
    ) else (
      if 2 ≤ l1 then (
        (retZ 1).bind fun r2 => some (r2, m)
      ) else (
        (putI 7 2 l0 l1 m).bind fun m3 =>
        (getR 7 3 l0 m3).bind fun t4 =>
        (getI 7 1 l0 m3).bind fun t5 =>
        (astI t4 l1 t5 m3).bind fun m6 =>
        (getR 7 4 l0 m6).bind fun t7 =>
        (getI 7 1 l0 m6).bind fun t8 =>
        (astI t7 l1 t8 m6).bind fun m9 =>
        (retZ 1).bind fun r10 => some (r10, m9)
      )
    )
  ) else none
-- DewBaron$Sums.add(I)Z
def X7_add (l0 : Nat) (l1 : Int) (m : Mem) : Option (Int × Mem) :=
  if shK l0 = 7 + 10 then (
    (getI 7 1 l0 m).bind fun t1 =>
    (getR 7 0 l0 m).bind fun t2 =>
    (alen t2).bind fun t3 =>
    if t3 ≤ t1 then (
      (retZ 1).bind fun r4 => some (r4, m)
    ) else (
      (getR 7 0 l0 m).bind fun t5 =>
      (getI 7 1 l0 m).bind fun t6 =>
      (astI t5 t6 l1 m).bind fun m7 =>
      (getI 7 1 l0 m7).bind fun t8 =>
      (putI 7 1 l0 (wI (t8 + 1)) m7).bind fun m9 =>
      (getR 7 4 l0 m9).bind fun t10 =>
      (getI 7 2 l0 m9).bind fun t11 =>
      (getI 7 1 l0 m9).bind fun t12 =>
      (astI t10 t11 t12 m9).bind fun m13 =>
      (retZ 1).bind fun r14 => some (r14, m13)
    )
  ) else none
-- DewBaron$Sums.codeOf(I)I
def X7_codeOf (l0 : Int) (m : Mem) : Option Int :=
  some (wI ((-1) - l0))
-- DewBaron$Reader.isSign(CCC)Z
def X6_isSign_J32 (m : Mem) : Option Int :=
  retZ 1
def X6_isSign (l0 : Nat) (l1 : Int) (l2 : Int) (l3 : Int) (m : Mem) : Option Int :=
  if shK l0 = 6 + 10 then (
    (getI 6 2 l0 m).bind fun t1 =>
    if ¬ t1 = 5 then (
      retZ 0
    ) else (
      (getI 6 4 l0 m).bind fun t2 =>
      if t2 = l1 then (
        X6_isSign_J32 m
      ) else (
        (getI 6 4 l0 m).bind fun t3 =>
        if t3 = l2 then (
          X6_isSign_J32 m
        ) else (
          (getI 6 4 l0 m).bind fun t4 =>
          if ¬ t4 = l3 then (
            retZ 0
          ) else (
            X6_isSign_J32 m
          )
        )
      )
    )
  ) else none
-- DewBaron$Reader.part(LDewBaron$Sums;I)Z
def X6_part_J189 (N : Nat) (self : Nat → Nat → Int → Mem → Option (Int × Mem)) (l0 : Nat) (m : Mem) : Option (Int × Mem) :=
  (X6_unexpected l0 m).bind fun p4 =>
  (retZ p4.1).bind fun r5 => some (r5, p4.2)
def X6_part_J298 (N : Nat) (self : Nat → Nat → Int → Mem → Option (Int × Mem)) (l0 : Nat) (l5 : Int) (m : Mem) : Option (Int × Mem) :=
  if l5 = 0 then (
    (retZ 0).bind fun r9 => some (r9, m)
  ) else (
    (X6_sign l0 41 m).bind fun p10 =>
    if p10.1 = 0 then (
      (retZ 0).bind fun r11 => some (r11, p10.2)
    ) else (
      (retZ 1).bind fun r12 => some (r12, p10.2)
    )
  )
def X6_part_J296 (N : Nat) (self : Nat → Nat → Int → Mem → Option (Int × Mem)) (l0 : Nat) (s0 : Int) (m : Mem) : Option (Int × Mem) :=
  X6_part_J298 N self l0 s0 m
def X6_part_J295 (N : Nat) (self : Nat → Nat → Int → Mem → Option (Int × Mem)) (l0 : Nat) (m : Mem) : Option (Int × Mem) :=
  X6_part_J296 N self l0 0 m
def X6_part_J285 (N : Nat) (self : Nat → Nat → Int → Mem → Option (Int × Mem)) (l0 : Nat) (s0 : Nat) (s1 : Int) (m : Mem) : Option (Int × Mem) :=
  (X7_add s0 s1 m).bind fun p17 =>
  if p17.1 = 0 then (
    X6_part_J295 N self l0 p17.2
  ) else (
    X6_part_J296 N self l0 1 p17.2
  )
def X6_part_J239 (N : Nat) (self : Nat → Nat → Int → Mem → Option (Int × Mem)) (l0 : Nat) (l1 : Nat) (l2 : Int) (l3 : Int) (l4 : Int) (s0 : Int) (m : Mem) : Option (Int × Mem) :=
  if l4 = 0 then (
    X6_part_J298 N self l0 s0 m
  ) else (
    if s0 = 0 then (
      X6_part_J295 N self l0 m
    ) else (
      (X6_sign l0 44 m).bind fun p15 =>
      if p15.1 = 0 then (
        X6_part_J295 N self l0 p15.2
      ) else (
        (self l0 l1 (wI (l2 + 1)) p15.2).bind fun p16 =>
        if p16.1 = 0 then (
          X6_part_J295 N self l0 p16.2
        ) else (
          if ¬ l3 = 25 then (
            X6_part_J285 N self l0 l1 (-101) p16.2
          ) else (
            X6_part_J285 N self l0 l1 (-100) p16.2
          )
        )
      )
    )
  )
def X6_part_J238 (N : Nat) (self : Nat → Nat → Int → Mem → Option (Int × Mem)) (l0 : Nat) (l1 : Nat) (l2 : Int) (l3 : Int) (l4 : Int) (m : Mem) : Option (Int × Mem) :=
  X6_part_J239 N self l0 l1 l2 l3 l4 0 m
def X6_part_J172 (N : Nat) (self : Nat → Nat → Int → Mem → Option (Int × Mem)) (l0 : Nat) (l1 : Nat) (l2 : Int) (l3 : Int) (l4 : Int) (m : Mem) : Option (Int × Mem) :=
  (getI 6 2 l0 m).bind fun t3 =>
  if ¬ t3 = 5 then (
    X6_part_J189 N self l0 m
  ) else (
    (getI 6 4 l0 m).bind fun t6 =>
    if t6 = 40 then (
      if l2 < 7 then (
        (getI 6 1 l0 m).bind fun t7 =>
        (X6_goTo l0 (wI (t7 + 1)) m).bind fun p8 =>
        if p8.1 = 0 then (
          X6_part_J238 N self l0 l1 l2 l3 l4 p8.2
        ) else (
          (self l0 l1 (wI (l2 + 1)) p8.2).bind fun p24 =>
          if p24.1 = 0 then (
            X6_part_J238 N self l0 l1 l2 l3 l4 p24.2
          ) else (
            X6_part_J239 N self l0 l1 l2 l3 l4 1 p24.2
          )
        )
      ) else (
        (getI 6 3 l0 m).bind fun t27 =>
        (X6_refuse l0 5 t27 m).bind fun p28 =>
        (retZ p28.1).bind fun r29 => some (r29, p28.2)
      )
    ) else (
      X6_part_J189 N self l0 m
    )
  )
def X6_part_J154 (N : Nat) (self : Nat → Nat → Int → Mem → Option (Int × Mem)) (l0 : Nat) (l1 : Nat) (l2 : Int) (l3 : Int) (s0 : Int) (m : Mem) : Option (Int × Mem) :=
  if s0 = 0 then (
    X6_part_J172 N self l0 l1 l2 l3 s0 m
  ) else (
    (getI 6 1 l0 m).bind fun t33 =>
    (X6_goTo l0 (wI (t33 + 1)) m).bind fun p34 =>
    X6_part_J172 N self l0 l1 l2 l3 s0 p34.2
  )
def X6_part_J149 (N : Nat) (self : Nat → Nat → Int → Mem → Option (Int × Mem)) (l0 : Nat) (l1 : Nat) (l2 : Int) (l3 : Int) (m : Mem) : Option (Int × Mem) :=
  X6_part_J154 N self l0 l1 l2 l3 1 m
def X6_part_J137 (N : Nat) (self : Nat → Nat → Int → Mem → Option (Int × Mem)) (l0 : Nat) (l1 : Nat) (l2 : Int) (l3 : Int) (m : Mem) : Option (Int × Mem) :=
  if l3 = 25 then (
    X6_part_J149 N self l0 l1 l2 l3 m
  ) else (
    if ¬ l3 = 26 then (
      X6_part_J154 N self l0 l1 l2 l3 0 m
    ) else (
      X6_part_J149 N self l0 l1 l2 l3 m
    )
  )
def X6_part_J16 (N : Nat) (self : Nat → Nat → Int → Mem → Option (Int × Mem)) (l0 : Nat) (l1 : Nat) (l2 : Int) (s0 : Int) (m : Mem) : Option (Int × Mem) :=
  (getI 6 2 l0 m).bind fun t2 =>
  if ¬ t2 = 1 then (
    if ¬ s0 = 7 then (
      if s0 < 16 then (
        X6_part_J137 N self l0 l1 l2 s0 m
      ) else (
        if 24 < s0 then (
          X6_part_J137 N self l0 l1 l2 s0 m
        ) else (
          (X7_codeOf (wI (s0 - 16)) m).bind fun p38 =>
          (X7_add l1 p38 m).bind fun p39 =>
          if p39.1 = 0 then (
            (retZ 0).bind fun r40 => some (r40, p39.2)
          ) else (
            (getI 6 1 l0 p39.2).bind fun t41 =>
            (X6_goTo l0 (wI (t41 + 1)) p39.2).bind fun p42 =>
            if p42.1 = 0 then (
              (retZ 0).bind fun r43 => some (r43, p42.2)
            ) else (
              (retZ 1).bind fun r44 => some (r44, p42.2)
            )
          )
        )
      )
    ) else (
      (X7_codeOf 9 m).bind fun p49 =>
      (X7_add l1 p49 m).bind fun p50 =>
      if p50.1 = 0 then (
        (retZ 0).bind fun r51 => some (r51, p50.2)
      ) else (
        (getI 6 1 l0 p50.2).bind fun t52 =>
        (X6_goTo l0 (wI (t52 + 1)) p50.2).bind fun p53 =>
        if p53.1 = 0 then (
          (retZ 0).bind fun r54 => some (r54, p53.2)
        ) else (
          (retZ 1).bind fun r55 => some (r55, p53.2)
        )
      )
    )
  ) else (
    (getI 6 4 l0 m).bind fun t59 =>
    (X7_add l1 t59 m).bind fun p60 =>
    if p60.1 = 0 then (
      (retZ 0).bind fun r61 => some (r61, p60.2)
    ) else (
      (getI 6 1 l0 p60.2).bind fun t62 =>
      (X6_goTo l0 (wI (t62 + 1)) p60.2).bind fun p63 =>
      if p63.1 = 0 then (
        (retZ 0).bind fun r64 => some (r64, p63.2)
      ) else (
        (retZ 1).bind fun r65 => some (r65, p63.2)
      )
    )
  )
def X6_part (N : Nat) (self : Nat → Nat → Int → Mem → Option (Int × Mem)) (l0 : Nat) (l1 : Nat) (l2 : Int) (m : Mem) : Option (Int × Mem) :=
  if shK l0 = 6 + 10 then (
    (getI 6 2 l0 m).bind fun t1 =>
    if ¬ t1 = 2 then (
      X6_part_J16 N self l0 l1 l2 (-1) m
    ) else (
      (getI 6 4 l0 m).bind fun t69 =>
      X6_part_J16 N self l0 l1 l2 t69 m
    )
  ) else none
-- DewBaron$Reader.product(LDewBaron$Sums;I)Z
def X6_product_J78 (N : Nat) (self : Nat → Nat → Int → Mem → Option (Int × Mem)) (r10 : Nat → Nat → Int → Int → Int → Mem → Option (Int × Mem)) (l0 : Nat) (l1 : Nat) (l2 : Int) (l4 : Int) (s0 : Int) (m : Mem) : Option (Int × Mem) :=
  r10 l0 l1 l2 s0 (wI (l4 + 1)) m
def X6_product_J77 (N : Nat) (self : Nat → Nat → Int → Mem → Option (Int × Mem)) (r10 : Nat → Nat → Int → Int → Int → Mem → Option (Int × Mem)) (l0 : Nat) (l1 : Nat) (l2 : Int) (l4 : Int) (m : Mem) : Option (Int × Mem) :=
  X6_product_J78 N self r10 l0 l1 l2 l4 0 m
def X6_product_L10_b (N : Nat) (self : Nat → Nat → Int → Mem → Option (Int × Mem)) (r10 : Nat → Nat → Int → Int → Int → Mem → Option (Int × Mem)) (l0 : Nat) (l1 : Nat) (l2 : Int) (l3 : Int) (l4 : Int) (m : Mem) : Option (Int × Mem) :=
  if 1600 ≤ l4 then (
    (retZ l3).bind fun r2 => some (r2, m)
  ) else (
    if l3 = 0 then (
      (retZ l3).bind fun r3 => some (r3, m)
    ) else (
      (X6_isSign l0 42 47 37 m).bind fun p4 =>
      if p4 = 0 then (
        (retZ l3).bind fun r5 => some (r5, m)
      ) else (
        (getI 6 4 l0 m).bind fun t6 =>
        (getI 6 1 l0 m).bind fun t7 =>
        (X6_goTo l0 (wI (t7 + 1)) m).bind fun p8 =>
        if p8.1 = 0 then (
          X6_product_J77 N self r10 l0 l1 l2 l4 p8.2
        ) else (
          (X6_part N self l0 l1 l2 p8.2).bind fun p9 =>
          if p9.1 = 0 then (
            X6_product_J77 N self r10 l0 l1 l2 l4 p9.2
          ) else (
            (X7_add l1 (wI (-t6)) p9.2).bind fun p10 =>
            if p10.1 = 0 then (
              X6_product_J77 N self r10 l0 l1 l2 l4 p10.2
            ) else (
              X6_product_J78 N self r10 l0 l1 l2 l4 1 p10.2
            )
          )
        )
      )
    )
  )
def X6_product_L10 (N : Nat) (self : Nat → Nat → Int → Mem → Option (Int × Mem)) : Nat → Nat → Nat → Int → Int → Int → Mem → Option (Int × Mem)
  | 0 => fun _ _ _ _ _ _ => none
  | f + 1 => X6_product_L10_b N self (X6_product_L10 N self f)
def X6_product (N : Nat) (self : Nat → Nat → Int → Mem → Option (Int × Mem)) (l0 : Nat) (l1 : Nat) (l2 : Int) (m : Mem) : Option (Int × Mem) :=
  if shK l0 = 6 + 10 then (
    (X6_part N self l0 l1 l2 m).bind fun p1 =>
    X6_product_L10 N self N l0 l1 l2 p1.1 0 p1.2
  ) else none
-- DewBaron$Reader.sum(LDewBaron$Sums;I)Z
def X6_sum_J78 (N : Nat) (self : Nat → Nat → Int → Mem → Option (Int × Mem)) (r10 : Nat → Nat → Int → Int → Int → Mem → Option (Int × Mem)) (l0 : Nat) (l1 : Nat) (l2 : Int) (l4 : Int) (s0 : Int) (m : Mem) : Option (Int × Mem) :=
  r10 l0 l1 l2 s0 (wI (l4 + 1)) m
def X6_sum_J77 (N : Nat) (self : Nat → Nat → Int → Mem → Option (Int × Mem)) (r10 : Nat → Nat → Int → Int → Int → Mem → Option (Int × Mem)) (l0 : Nat) (l1 : Nat) (l2 : Int) (l4 : Int) (m : Mem) : Option (Int × Mem) :=
  X6_sum_J78 N self r10 l0 l1 l2 l4 0 m
def X6_sum_L10_b (N : Nat) (self : Nat → Nat → Int → Mem → Option (Int × Mem)) (r10 : Nat → Nat → Int → Int → Int → Mem → Option (Int × Mem)) (l0 : Nat) (l1 : Nat) (l2 : Int) (l3 : Int) (l4 : Int) (m : Mem) : Option (Int × Mem) :=
  if 1600 ≤ l4 then (
    (retZ l3).bind fun r2 => some (r2, m)
  ) else (
    if l3 = 0 then (
      (retZ l3).bind fun r3 => some (r3, m)
    ) else (
      (X6_isSign l0 43 45 45 m).bind fun p4 =>
      if p4 = 0 then (
        (retZ l3).bind fun r5 => some (r5, m)
      ) else (
        (getI 6 4 l0 m).bind fun t6 =>
        (getI 6 1 l0 m).bind fun t7 =>
        (X6_goTo l0 (wI (t7 + 1)) m).bind fun p8 =>
        if p8.1 = 0 then (
          X6_sum_J77 N self r10 l0 l1 l2 l4 p8.2
        ) else (
          (X6_product N self l0 l1 l2 p8.2).bind fun p9 =>
          if p9.1 = 0 then (
            X6_sum_J77 N self r10 l0 l1 l2 l4 p9.2
          ) else (
            (X7_add l1 (wI (-t6)) p9.2).bind fun p10 =>
            if p10.1 = 0 then (
              X6_sum_J77 N self r10 l0 l1 l2 l4 p10.2
            ) else (
              X6_sum_J78 N self r10 l0 l1 l2 l4 1 p10.2
            )
          )
        )
      )
    )
  )
def X6_sum_L10 (N : Nat) (self : Nat → Nat → Int → Mem → Option (Int × Mem)) : Nat → Nat → Nat → Int → Int → Int → Mem → Option (Int × Mem)
  | 0 => fun _ _ _ _ _ _ => none
  | f + 1 => X6_sum_L10_b N self (X6_sum_L10 N self f)
def X6_sum_c (N : Nat) (self : Nat → Nat → Int → Mem → Option (Int × Mem)) (l0 : Nat) (l1 : Nat) (l2 : Int) (m : Mem) : Option (Int × Mem) :=
  if shK l0 = 6 + 10 then (
    (X6_product N self l0 l1 l2 m).bind fun p1 =>
    X6_sum_L10 N self N l0 l1 l2 p1.1 0 p1.2
  ) else none
def X6_sum (N : Nat) : Nat → Nat → Nat → Int → Mem → Option (Int × Mem)
  | 0 => fun _ _ _ _ => none
  | d + 1 => X6_sum_c N (X6_sum N d)
-- DewBaron$Reader.drinks(LDewBaron$Plan;)Z
def X6_drinks (l0 : Nat) (l1 : Nat) (m : Mem) : Option (Int × Mem) :=
  if shK l0 = 6 + 10 then (
    (X6_number l0 0 999 m).bind fun p1 =>
    (getI 6 5 l0 p1.2).bind fun t2 =>
    (putI 5 17 l1 t2 p1.2).bind fun m3 =>
    (retZ p1.1).bind fun r4 => some (r4, m3)
  ) else none
-- DewBaron$Reader.cloudy(LDewBaron$Plan;)Z
def X6_cloudy (l0 : Nat) (l1 : Nat) (m : Mem) : Option (Int × Mem) :=
  if shK l0 = 6 + 10 then (
    (X6_number l0 0 100 m).bind fun p1 =>
    (getI 6 5 l0 p1.2).bind fun t2 =>
    (putI 5 18 l1 t2 p1.2).bind fun m3 =>
    (retZ p1.1).bind fun r4 => some (r4, m3)
  ) else none
-- DewBaron$Reader.wring(LDewBaron$Plan;)Z
def X6_wring (l0 : Nat) (l1 : Nat) (m : Mem) : Option (Int × Mem) :=
  if shK l0 = 6 + 10 then (
    (X6_number l0 1 20 m).bind fun p1 =>
    (getI 6 5 l0 p1.2).bind fun t2 =>
    (putI 5 19 l1 t2 p1.2).bind fun m3 =>
    (retZ p1.1).bind fun r4 => some (r4, m3)
  ) else none
-- DewBaron$Reader.statement(LDewBaron$Plan;)Z
def X6_statement_J34 (N : Nat) (l0 : Nat) (m : Mem) : Option (Int × Mem) :=
  (getI 6 3 l0 m).bind fun t3 =>
  (X6_refuse l0 6 t3 m).bind fun p4 =>
  (retZ p4.1).bind fun r5 => some (r5, p4.2)
def X6_statement_J447 (N : Nat) (l0 : Nat) (m : Mem) : Option (Int × Mem) :=
  (X6_unexpected l0 m).bind fun p15 =>
  (retZ p15.1).bind fun r16 => some (r16, p15.2)
def X6_statement_J16 (N : Nat) (l0 : Nat) (l1 : Nat) (s0 : Int) (m : Mem) : Option (Int × Mem) :=
  (getI 6 11 l0 m).bind fun t2 =>
  if 80 ≤ t2 then (
    X6_statement_J34 N l0 m
  ) else (
    (X6_isOneTooMany N l1 s0 m).bind fun p6 =>
    if p6 = 0 then (
      if s0 = 1 then (
        (X6_word l0 s0 m).bind fun p7 =>
        if p7.1 = 0 then (
          (retZ 0).bind fun r8 => some (r8, p7.2)
        ) else (
          (X6_height N l0 l1 p7.2).bind fun p9 =>
          if p9.1 = 0 then (
            (retZ 0).bind fun r10 => some (r10, p9.2)
          ) else (
            (retZ 1).bind fun r11 => some (r11, p9.2)
          )
        )
      ) else
      if s0 = 2 then (
        X6_statement_J447 N l0 m
      ) else
      if s0 = 3 then (
        (X6_word l0 s0 m).bind fun p18 =>
        if p18.1 = 0 then (
          (retZ 0).bind fun r19 => some (r19, p18.2)
        ) else (
          (X6_wallOf N l0 l1 p18.2).bind fun p20 =>
          if p20.1 = 0 then (
            (retZ 0).bind fun r21 => some (r21, p20.2)
          ) else (
            (retZ 1).bind fun r22 => some (r22, p20.2)
          )
        )
      ) else
      if s0 = 4 then (
        (X6_word l0 s0 m).bind fun p26 =>
        if p26.1 = 0 then (
          (retZ 0).bind fun r27 => some (r27, p26.2)
        ) else (
          (X6_house N l0 l1 p26.2).bind fun p28 =>
          if p28.1 = 0 then (
            (retZ 0).bind fun r29 => some (r29, p28.2)
          ) else (
            (retZ 1).bind fun r30 => some (r30, p28.2)
          )
        )
      ) else
      if s0 = 5 then (
        (X6_word l0 s0 m).bind fun p34 =>
        if p34.1 = 0 then (
          (retZ 0).bind fun r35 => some (r35, p34.2)
        ) else (
          (X6_cisternOf N l0 l1 p34.2).bind fun p36 =>
          if p36.1 = 0 then (
            (retZ 0).bind fun r37 => some (r37, p36.2)
          ) else (
            (retZ 1).bind fun r38 => some (r38, p36.2)
          )
        )
      ) else
      if s0 = 6 then (
        (X6_word l0 s0 m).bind fun p42 =>
        if p42.1 = 0 then (
          (retZ 0).bind fun r43 => some (r43, p42.2)
        ) else (
          (X6_name N l0 l1 p42.2).bind fun p44 =>
          if p44.1 = 0 then (
            (retZ 0).bind fun r45 => some (r45, p44.2)
          ) else (
            (X6_thingOf N l0 l1 0 p44.2).bind fun p46 =>
            if p46.1 = 0 then (
              (retZ 0).bind fun r47 => some (r47, p46.2)
            ) else (
              (retZ 1).bind fun r48 => some (r48, p46.2)
            )
          )
        )
      ) else
      if s0 = 7 then (
        X6_statement_J447 N l0 m
      ) else
      if s0 = 8 then (
        (X6_word l0 s0 m).bind fun p54 =>
        if p54.1 = 0 then (
          (retZ 0).bind fun r55 => some (r55, p54.2)
        ) else (
          (X6_thingOf N l0 l1 1 p54.2).bind fun p56 =>
          if p56.1 = 0 then (
            (retZ 0).bind fun r57 => some (r57, p56.2)
          ) else (
            (retZ 1).bind fun r58 => some (r58, p56.2)
          )
        )
      ) else
      if s0 = 9 then (
        (X6_word l0 s0 m).bind fun p62 =>
        if p62.1 = 0 then (
          (retZ 0).bind fun r63 => some (r63, p62.2)
        ) else (
          (X6_thingOf N l0 l1 2 p62.2).bind fun p64 =>
          if p64.1 = 0 then (
            (retZ 0).bind fun r65 => some (r65, p64.2)
          ) else (
            (retZ 1).bind fun r66 => some (r66, p64.2)
          )
        )
      ) else
      if s0 = 10 then (
        (X6_word l0 s0 m).bind fun p70 =>
        if p70.1 = 0 then (
          (retZ 0).bind fun r71 => some (r71, p70.2)
        ) else (
          (X6_letters N l0 l1 p70.2).bind fun p72 =>
          if p72.1 = 0 then (
            (retZ 0).bind fun r73 => some (r73, p72.2)
          ) else (
            (retZ 1).bind fun r74 => some (r74, p72.2)
          )
        )
      ) else
      if s0 = 11 then (
        (X6_word l0 s0 m).bind fun p78 =>
        if p78.1 = 0 then (
          (retZ 0).bind fun r79 => some (r79, p78.2)
        ) else (
          (getR 5 16 l1 p78.2).bind fun t80 =>
          (X7_begin t80 0 p78.2).bind fun p81 =>
          if p81.1 = 0 then (
            (retZ 0).bind fun r82 => some (r82, p81.2)
          ) else (
            (getR 5 16 l1 p81.2).bind fun t83 =>
            (X6_sum N 10 l0 t83 0 p81.2).bind fun p84 =>
            if p84.1 = 0 then (
              (retZ 0).bind fun r85 => some (r85, p84.2)
            ) else (
              (retZ 1).bind fun r86 => some (r86, p84.2)
            )
          )
        )
      ) else
      if s0 = 12 then (
        (X6_word l0 s0 m).bind fun p91 =>
        if p91.1 = 0 then (
          (retZ 0).bind fun r92 => some (r92, p91.2)
        ) else (
          (getR 5 16 l1 p91.2).bind fun t93 =>
          (X7_begin t93 1 p91.2).bind fun p94 =>
          if p94.1 = 0 then (
            (retZ 0).bind fun r95 => some (r95, p94.2)
          ) else (
            (getR 5 16 l1 p94.2).bind fun t96 =>
            (X6_sum N 10 l0 t96 0 p94.2).bind fun p97 =>
            if p97.1 = 0 then (
              (retZ 0).bind fun r98 => some (r98, p97.2)
            ) else (
              (retZ 1).bind fun r99 => some (r99, p97.2)
            )
          )
        )
      ) else
      if s0 = 13 then (
        (X6_word l0 s0 m).bind fun p104 =>
        if p104.1 = 0 then (
          (retZ 0).bind fun r105 => some (r105, p104.2)
        ) else (
          (X6_drinks l0 l1 p104.2).bind fun p106 =>
          if p106.1 = 0 then (
            (retZ 0).bind fun r107 => some (r107, p106.2)
          ) else (
            (retZ 1).bind fun r108 => some (r108, p106.2)
          )
        )
      ) else
      if s0 = 14 then (
        (X6_word l0 s0 m).bind fun p112 =>
        if p112.1 = 0 then (
          (retZ 0).bind fun r113 => some (r113, p112.2)
        ) else (
          (X6_cloudy l0 l1 p112.2).bind fun p114 =>
          if p114.1 = 0 then (
            (retZ 0).bind fun r115 => some (r115, p114.2)
          ) else (
            (retZ 1).bind fun r116 => some (r116, p114.2)
          )
        )
      ) else
      if s0 = 15 then (
        (X6_word l0 s0 m).bind fun p120 =>
        if p120.1 = 0 then (
          (retZ 0).bind fun r121 => some (r121, p120.2)
        ) else (
          (X6_wring l0 l1 p120.2).bind fun p122 =>
          if p122.1 = 0 then (
            (retZ 0).bind fun r123 => some (r123, p122.2)
          ) else (
            (retZ 1).bind fun r124 => some (r124, p122.2)
          )
        )
      ) else
      X6_statement_J447 N l0 m
    ) else (
      X6_statement_J34 N l0 m
    )
  )
def X6_statement (N : Nat) (l0 : Nat) (l1 : Nat) (m : Mem) : Option (Int × Mem) :=
  if shK l0 = 6 + 10 then (
    (getI 6 2 l0 m).bind fun t1 =>
    if ¬ t1 = 2 then (
      X6_statement_J16 N l0 l1 (-1) m
    ) else (
      (getI 6 4 l0 m).bind fun t130 =>
      X6_statement_J16 N l0 l1 t130 m
    )
  ) else none
-- DewBaron$Reader.read([IILDewBaron$Plan;)Z
def X6_read_J98 (N : Nat) (r59 : Nat → Nat → Int → Int → Mem → Option (Int × Mem)) (l0 : Nat) (l3 : Nat) (l5 : Int) (s0 : Int) (m : Mem) : Option (Int × Mem) :=
  r59 l0 l3 s0 (wI (l5 + 1)) m
def X6_read_J97 (N : Nat) (r59 : Nat → Nat → Int → Int → Mem → Option (Int × Mem)) (l0 : Nat) (l3 : Nat) (l5 : Int) (m : Mem) : Option (Int × Mem) :=
  X6_read_J98 N r59 l0 l3 l5 0 m
def X6_read_L59_b (N : Nat) (r59 : Nat → Nat → Int → Int → Mem → Option (Int × Mem)) (l0 : Nat) (l3 : Nat) (l4 : Int) (l5 : Int) (m : Mem) : Option (Int × Mem) :=
  if 80 < l5 then (
    (retZ l4).bind fun r9 => some (r9, m)
  ) else (
    if l4 = 0 then (
      (retZ l4).bind fun r10 => some (r10, m)
    ) else (
      (getI 6 2 l0 m).bind fun t11 =>
      if t11 = 0 then (
        (retZ l4).bind fun r12 => some (r12, m)
      ) else (
        (X6_statement N l0 l3 m).bind fun p13 =>
        if p13.1 = 0 then (
          X6_read_J97 N r59 l0 l3 l5 p13.2
        ) else (
          (X6_close l0 p13.2).bind fun p14 =>
          if p14.1 = 0 then (
            X6_read_J97 N r59 l0 l3 l5 p14.2
          ) else (
            X6_read_J98 N r59 l0 l3 l5 1 p14.2
          )
        )
      )
    )
  )
def X6_read_L59 (N : Nat) : Nat → Nat → Nat → Int → Int → Mem → Option (Int × Mem)
  | 0 => fun _ _ _ _ _ => none
  | f + 1 => X6_read_L59_b N (X6_read_L59 N f)
def X6_read_J54 (N : Nat) (l0 : Nat) (l3 : Nat) (s0 : Int) (m : Mem) : Option (Int × Mem) :=
  X6_read_L59 N N l0 l3 s0 0 m
def X6_read_J53 (N : Nat) (l0 : Nat) (l3 : Nat) (m : Mem) : Option (Int × Mem) :=
  X6_read_J54 N l0 l3 0 m
def X6_read (N : Nat) (l0 : Nat) (l1 : Nat) (l2 : Int) (l3 : Nat) (m : Mem) : Option (Int × Mem) :=
  if shK l0 = 6 + 10 then (
    (getR 6 0 l0 m).bind fun t1 =>
    (X8_cut N t1 l1 l2 m).bind fun p2 =>
    (X5_clear N l3 p2).bind fun p3 =>
    (putI 6 9 l0 0 p3).bind fun m4 =>
    (putI 6 10 l0 (-1) m4).bind fun m5 =>
    (putI 6 11 l0 0 m5).bind fun m6 =>
    (X6_goTo l0 0 m6).bind fun p7 =>
    (X6_size N l0 l3 p7.2).bind fun p8 =>
    if p8.1 = 0 then (
      X6_read_J53 N l0 l3 p8.2
    ) else (
      (X6_close l0 p8.2).bind fun p20 =>
      if p20.1 = 0 then (
        X6_read_J53 N l0 l3 p20.2
      ) else (
        X6_read_J54 N l0 l3 1 p20.2
      )
    )
  ) else none
-- DewBaron$Past.forget()V
def X4_forget (l0 : Nat) (m : Mem) : Option Mem :=
  if shK l0 = 4 + 10 then (
    (putI 4 2 l0 0 m).bind fun m1 =>
    some m1
  ) else none
-- DewBaron$Meadow.forget()V
def X2_forget (l0 : Nat) (m : Mem) : Option Mem :=
  if shK l0 = 2 + 10 then (
    (putI 2 1 l0 0 m).bind fun m1 =>
    (putI 2 4 l0 0 m1).bind fun m2 =>
    some m2
  ) else none
-- DewBaron.island()I
def X10_island (N : Nat) (l0 : Nat) (m : Mem) : Option (Int × Mem) :=
  if shK l0 = 10 + 10 then (
    (getR 10 2 l0 m).bind fun t1 =>
    (getR 10 0 l0 m).bind fun t2 =>
    (getI 10 1 l0 m).bind fun t3 =>
    (getR 10 4 l0 m).bind fun t4 =>
    (X6_read N t1 t2 t3 t4 m).bind fun p5 =>
    (putI 10 1 l0 0 p5.2).bind fun m6 =>
    if ¬ p5.1 = 0 then (
      (getR 10 3 l0 m6).bind fun t7 =>
      (getR 10 4 l0 m6).bind fun t8 =>
      (putR 10 3 l0 t8 m6).bind fun m9 =>
      (putR 10 4 l0 t7 m9).bind fun m10 =>
      (getR 10 5 l0 m10).bind fun t11 =>
      (getR 10 3 l0 m10).bind fun t12 =>
      (getR 5 5 t12 m10).bind fun t13 =>
      (X1_copyFrom t11 t13 m10).bind fun p14 =>
      (getR 10 7 l0 p14).bind fun t15 =>
      (X4_forget t15 p14).bind fun p16 =>
      (getR 10 15 l0 p16).bind fun t17 =>
      (X2_forget t17 p16).bind fun p18 =>
      (X10_changed l0 p18).bind fun p19 =>
      (getR 10 2 l0 p19).bind fun t20 =>
      (getI 6 11 t20 p19).bind fun t21 =>
      some (t21, p19)
    ) else (
      (X10_refuse l0 1 m6).bind fun p22 =>
      some (p22.1, p22.2)
    )
  ) else none
-- DewBaron$Words.letterOf(II)I
def X8_letterOf (l0 : Int) (l1 : Int) (m : Mem) : Option Int :=
  if l1 < 0 then (
    some 0
  ) else (
    if 6 ≤ l1 then (
      some 0
    ) else (
      some (iand (ishr l0 (wI (5 * (wI (5 - l1))))) 31)
    )
  )
-- DewBaron.letter(III)I
def X10_letter_J41 (l0 : Nat) (l1 : Int) (l2 : Int) (l3 : Int) (m : Mem) : Option Int :=
  if ¬ l1 = 1 then (
    some (-1)
  ) else (
    (getR 10 3 l0 m).bind fun t1 =>
    (X5_isCloth t1 l2 m).bind fun p2 =>
    if p2 = 0 then (
      some (-1)
    ) else (
      (getR 10 3 l0 m).bind fun t3 =>
      (getR 5 14 t3 m).bind fun t4 =>
      (aldI t4 l2 m).bind fun t5 =>
      (X8_letterOf t5 l3 m).bind fun p6 =>
      some p6
    )
  )
def X10_letter (l0 : Nat) (l1 : Int) (l2 : Int) (l3 : Int) (m : Mem) : Option Int :=
  if shK l0 = 10 + 10 then (
    if l3 < 0 then (
      some (-1)
    ) else (
      if l3 < 6 then (
        if ¬ l1 = 0 then (
          X10_letter_J41 l0 l1 l2 l3 m
        ) else (
          (getR 10 3 l0 m).bind fun t9 =>
          (X5_isCistern t9 l2 m).bind fun p10 =>
          if p10 = 0 then (
            X10_letter_J41 l0 l1 l2 l3 m
          ) else (
            (getR 10 3 l0 m).bind fun t11 =>
            (getR 5 8 t11 m).bind fun t12 =>
            (aldI t12 l2 m).bind fun t13 =>
            (X8_letterOf t13 l3 m).bind fun p14 =>
            some p14
          )
        )
      ) else (
        some (-1)
      )
    )
  ) else none
-- DewBaron$Wringing.prepare(LDewBaron$Plan;LDewBaron$Land;LDewBaron$Night;)V
def X9_prepare_L19_b (N : Nat) (r19 : Nat → Nat → Nat → Nat → Int → Mem → Option Mem) (l0 : Nat) (l1 : Nat) (l2 : Nat) (l3 : Nat) (l4 : Int) (m : Mem) : Option Mem :=
  (getI 9 2 l0 m).bind fun t5 =>
  if t5 ≤ l4 then (
    some m
  ) else (
    (getR 5 13 l1 m).bind fun t6 =>
    (aldI t6 l4 m).bind fun t7 =>
    (getR 9 0 l0 m).bind fun t8 =>
    (X3_dawn l3 t7 m).bind fun p9 =>
    (astI t8 l4 p9 m).bind fun m10 =>
    (getR 9 1 l0 m10).bind fun t11 =>
    (getR 1 1 l2 m10).bind fun t12 =>
    (aldI t12 t7 m10).bind fun t13 =>
    (X5_sun N l1 l2 t13 m10).bind fun p14 =>
    (astI t11 l4 p14 m10).bind fun m15 =>
    r19 l0 l1 l2 l3 (wI (l4 + 1)) m15
  )
def X9_prepare_L19 (N : Nat) : Nat → Nat → Nat → Nat → Nat → Int → Mem → Option Mem
  | 0 => fun _ _ _ _ _ _ => none
  | f + 1 => X9_prepare_L19_b N (X9_prepare_L19 N f)
def X9_prepare (N : Nat) (l0 : Nat) (l1 : Nat) (l2 : Nat) (l3 : Nat) (m : Mem) : Option Mem :=
  if shK l0 = 9 + 10 then (
    (getI 5 12 l1 m).bind fun t1 =>
    (putI 9 2 l0 t1 m).bind fun m2 =>
    (getI 5 19 l1 m2).bind fun t3 =>
    (putI 9 3 l0 t3 m2).bind fun m4 =>
    X9_prepare_L19 N N l0 l1 l2 l3 0 m4
  ) else none
-- java/lang/Integer.bitCount(I)I
def J6_bitCount_0f7a4 (l0 : Int) (m : Mem) : Option Int :=
  some (iand (wI ((wI ((iand (wI ((wI ((iand (wI (l0 - (iand (iusr l0 1) 1431655765))) 858993459) + (iand (iusr (wI (l0 - (iand (iusr l0 1) 1431655765))) 2) 858993459))) + (iusr (wI ((iand (wI (l0 - (iand (iusr l0 1) 1431655765))) 858993459) + (iand (iusr (wI (l0 - (iand (iusr l0 1) 1431655765))) 2) 858993459))) 4))) 252645135) + (iusr (iand (wI ((wI ((iand (wI (l0 - (iand (iusr l0 1) 1431655765))) 858993459) + (iand (iusr (wI (l0 - (iand (iusr l0 1) 1431655765))) 2) 858993459))) + (iusr (wI ((iand (wI (l0 - (iand (iusr l0 1) 1431655765))) 858993459) + (iand (iusr (wI (l0 - (iand (iusr l0 1) 1431655765))) 2) 858993459))) 4))) 252645135) 8))) + (iusr (wI ((iand (wI ((wI ((iand (wI (l0 - (iand (iusr l0 1) 1431655765))) 858993459) + (iand (iusr (wI (l0 - (iand (iusr l0 1) 1431655765))) 2) 858993459))) + (iusr (wI ((iand (wI (l0 - (iand (iusr l0 1) 1431655765))) 858993459) + (iand (iusr (wI (l0 - (iand (iusr l0 1) 1431655765))) 2) 858993459))) 4))) 252645135) + (iusr (iand (wI ((wI ((iand (wI (l0 - (iand (iusr l0 1) 1431655765))) 858993459) + (iand (iusr (wI (l0 - (iand (iusr l0 1) 1431655765))) 2) 858993459))) + (iusr (wI ((iand (wI (l0 - (iand (iusr l0 1) 1431655765))) 858993459) + (iand (iusr (wI (l0 - (iand (iusr l0 1) 1431655765))) 2) 858993459))) 4))) 252645135) 8))) 16))) 63)
-- DewBaron$Wringing.together(I)I
def X9_together_L4_b (N : Nat) (m : Mem) (r4 : Nat → Int → Int → Int → Option Int) (l0 : Nat) (l1 : Int) (l2 : Int) (l3 : Int) : Option Int :=
  (getI 9 2 l0 m).bind fun t1 =>
  if t1 ≤ l3 then (
    some l2
  ) else (
    (getR 9 0 l0 m).bind fun t2 =>
    (aldI t2 l3 m).bind fun t3 =>
    r4 l0 l1 (wI (l2 + (wI ((iand (ishr l1 l3) 1) * t3)))) (wI (l3 + 1))
  )
def X9_together_L4 (N : Nat) (m : Mem) : Nat → Nat → Int → Int → Int → Option Int
  | 0 => fun _ _ _ _ => none
  | f + 1 => X9_together_L4_b N m (X9_together_L4 N m f)
def X9_together (N : Nat) (l0 : Nat) (l1 : Int) (m : Mem) : Option Int :=
  if shK l0 = 9 + 10 then (
    X9_together_L4 N m N l0 l1 0 0
  ) else none
-- DewBaron$Wringing.leastLinen(I)I
def X9_leastLinen_J53 (N : Nat) (r4 : Nat → Int → Int → Int → Option Int) (l0 : Nat) (l1 : Int) (l2 : Int) (l3 : Int) (m : Mem) : Option Int :=
  r4 l0 l1 l2 (wI (l3 + 1))
def X9_leastLinen_J35 (N : Nat) (r4 : Nat → Int → Int → Int → Option Int) (l0 : Nat) (l1 : Int) (l2 : Int) (l3 : Int) (s0 : Int) (m : Mem) : Option Int :=
  if s0 = 0 then (
    X9_leastLinen_J53 N r4 l0 l1 l2 l3 m
  ) else (
    (X9_together N l0 l3 m).bind fun p2 =>
    if p2 < l1 then (
      X9_leastLinen_J53 N r4 l0 l1 l2 l3 m
    ) else (
      X9_leastLinen_J53 N r4 l0 l1 l3 l3 m
    )
  )
def X9_leastLinen_J30 (N : Nat) (r4 : Nat → Int → Int → Int → Option Int) (l0 : Nat) (l1 : Int) (l2 : Int) (l3 : Int) (m : Mem) : Option Int :=
  X9_leastLinen_J35 N r4 l0 l1 l2 l3 1 m
def X9_leastLinen_L4_b (N : Nat) (m : Mem) (r4 : Nat → Int → Int → Int → Option Int) (l0 : Nat) (l1 : Int) (l2 : Int) (l3 : Int) : Option Int :=
  (getI 9 2 l0 m).bind fun t1 =>
  if (ishl 1 t1) ≤ l3 then (
    some l2
  ) else (
    if l2 = (-1) then (
      X9_leastLinen_J30 N r4 l0 l1 l2 l3 m
    ) else (
      (J6_bitCount_0f7a4 l3 m).bind fun p5 =>
      (J6_bitCount_0f7a4 l2 m).bind fun p6 =>
      if p6 ≤ p5 then (
        X9_leastLinen_J35 N r4 l0 l1 l2 l3 0 m
      ) else (
        X9_leastLinen_J30 N r4 l0 l1 l2 l3 m
      )
    )
  )
def X9_leastLinen_L4 (N : Nat) (m : Mem) : Nat → Nat → Int → Int → Int → Option Int
  | 0 => fun _ _ _ _ => none
  | f + 1 => X9_leastLinen_L4_b N m (X9_leastLinen_L4 N m f)
def X9_leastLinen (N : Nat) (l0 : Nat) (l1 : Int) (m : Mem) : Option Int :=
  if shK l0 = 9 + 10 then (
    X9_leastLinen_L4 N m N l0 l1 (-1) 0
  ) else none
-- DewBaron.linen(II)I
def X10_linen_J53 (N : Nat) (l3 : Int) (m : Mem) : Option (Int × Mem) :=
  some (l3, m)
def X10_linen (N : Nat) (l0 : Nat) (l1 : Int) (l2 : Int) (m : Mem) : Option (Int × Mem) :=
  if shK l0 = 10 + 10 then (
    if l1 < 0 then (
      some ((-1), m)
    ) else (
      if l2 < 0 then (
        some ((-1), m)
      ) else (
        if l2 ≤ 1 then (
          (getR 10 13 l0 m).bind fun t1 =>
          (getR 10 3 l0 m).bind fun t2 =>
          (getR 10 5 l0 m).bind fun t3 =>
          (X10_asTold N l0 m).bind fun p4 =>
          (X9_prepare N t1 t2 t3 p4.1 p4.2).bind fun p5 =>
          (getR 10 13 l0 p5).bind fun t6 =>
          (X9_leastLinen N t6 l1 p5).bind fun p7 =>
          if p7 = (-1) then (
            X10_linen_J53 N p7 p5
          ) else (
            if ¬ l2 = 1 then (
              (J6_bitCount_0f7a4 p7 p5).bind fun p8 =>
              some (p8, p5)
            ) else (
              X10_linen_J53 N p7 p5
            )
          )
        ) else (
          some ((-1), m)
        )
      )
    )
  ) else none
-- DewBaron$Land.filled(LDewBaron$Night;I)I
def X1_filled (l0 : Nat) (l1 : Nat) (l2 : Int) (m : Mem) : Option Int :=
  if shK l0 = 1 + 10 then (
    (getR 1 2 l0 m).bind fun t1 =>
    (aldI t1 l2 m).bind fun t2 =>
    (getR 3 8 l1 m).bind fun t3 =>
    (aldI t3 l2 m).bind fun t4 =>
    some (min 9999 (wI (t2 + t4)))
  ) else none
-- DewBaron$Land.pour(LDewBaron$Plan;LDewBaron$Night;)I
def X1_pour_L5_b (N : Nat) (k53 : Nat → Int → Mem → Option (Int × Mem)) (r5 : Nat → Nat → Nat → Int → Int → Mem → Option (Int × Mem)) (l0 : Nat) (l1 : Nat) (l2 : Nat) (l3 : Int) (l4 : Int) (m : Mem) : Option (Int × Mem) :=
  (getI 5 6 l1 m).bind fun t1 =>
  if t1 ≤ l4 then (
    k53 l0 l3 m
  ) else (
    (getR 3 8 l2 m).bind fun t2 =>
    (aldI t2 l4 m).bind fun t3 =>
    (getR 1 2 l0 m).bind fun t4 =>
    (X1_filled l0 l2 l4 m).bind fun p5 =>
    (getI 5 17 l1 m).bind fun t6 =>
    (astI t4 l4 (max 0 (wI (p5 - t6))) m).bind fun m7 =>
    r5 l0 l1 l2 (wI (l3 + t3)) (wI (l4 + 1)) m7
  )
def X1_pour_L5 (N : Nat) (k53 : Nat → Int → Mem → Option (Int × Mem)) : Nat → Nat → Nat → Nat → Int → Int → Mem → Option (Int × Mem)
  | 0 => fun _ _ _ _ _ _ => none
  | f + 1 => X1_pour_L5_b N k53 (X1_pour_L5 N k53 f)
def X1_pour (N : Nat) (l0 : Nat) (l1 : Nat) (l2 : Nat) (m : Mem) : Option (Int × Mem) :=
  if shK l0 = 1 + 10 then (
    X1_pour_L5 N (fun z9 z10 m11 =>
        (getI 1 3 z9 m11).bind fun t12 =>
        (putI 1 3 z9 (wI (t12 + 1)) m11).bind fun m13 =>
        some (z10, m13)) N l0 l1 l2 0 0 m
  ) else none
-- DewBaron.night()I
def X10_night (N : Nat) (l0 : Nat) (m : Mem) : Option (Int × Mem) :=
  if shK l0 = 10 + 10 then (
    (X10_canPass l0 1 m).bind fun p1 =>
    if ¬ p1 = 0 then (
      (getR 10 7 l0 m).bind fun t2 =>
      (getR 10 5 l0 m).bind fun t3 =>
      (X4_remember t2 t3 m).bind fun p4 =>
      (getR 10 5 l0 p4).bind fun t5 =>
      (getR 10 3 l0 p4).bind fun t6 =>
      (X10_asTold N l0 p4).bind fun p7 =>
      (X1_pour N t5 t6 p7.1 p7.2).bind fun p8 =>
      some (p8.1, p8.2)
    ) else (
      (X10_refuse l0 3 m).bind fun p9 =>
      some (p9.1, p9.2)
    )
  ) else none
-- DewBaron.nights(I)I
def X10_nights_J19 (N : Nat) (l0 : Nat) (m : Mem) : Option (Int × Mem) :=
  (X10_refuse l0 3 m).bind fun p1 =>
  some (p1.1, p1.2)
def X10_nights_L40_b (N : Nat) (r40 : Nat → Int → Int → Int → Mem → Option (Int × Mem)) (l0 : Nat) (l1 : Int) (l2 : Int) (l3 : Int) (m : Mem) : Option (Int × Mem) :=
  if l1 ≤ l3 then (
    some (l2, m)
  ) else (
    (X10_drawSky N l0 m).bind fun p6 =>
    (getR 10 10 l0 p6).bind fun t7 =>
    (getR 10 3 l0 p6).bind fun t8 =>
    (getR 10 5 l0 p6).bind fun t9 =>
    (getR 10 11 l0 p6).bind fun t10 =>
    (X3_pass N t7 t8 t9 t10 p6).bind fun p11 =>
    (getR 10 5 l0 p11).bind fun t12 =>
    (getR 10 3 l0 p11).bind fun t13 =>
    (getR 10 10 l0 p11).bind fun t14 =>
    (X1_pour N t12 t13 t14 p11).bind fun p15 =>
    r40 l0 l1 (wI (l2 + p15.1)) (wI (l3 + 1)) p15.2
  )
def X10_nights_L40 (N : Nat) : Nat → Nat → Int → Int → Int → Mem → Option (Int × Mem)
  | 0 => fun _ _ _ _ _ => none
  | f + 1 => X10_nights_L40_b N (X10_nights_L40 N f)
def X10_nights (N : Nat) (l0 : Nat) (l1 : Int) (m : Mem) : Option (Int × Mem) :=
  if shK l0 = 10 + 10 then (
    if l1 < 1 then (
      X10_nights_J19 N l0 m
    ) else (
      if 40 < l1 then (
        X10_nights_J19 N l0 m
      ) else (
        (X10_canPass l0 l1 m).bind fun p2 =>
        if ¬ p2 = 0 then (
          (getR 10 7 l0 m).bind fun t3 =>
          (getR 10 5 l0 m).bind fun t4 =>
          (X4_remember t3 t4 m).bind fun p5 =>
          X10_nights_L40 N N l0 l1 0 0 p5
        ) else (
          X10_nights_J19 N l0 m
        )
      )
    )
  ) else none
-- DewBaron.octet(I)I
def X10_octet (l0 : Nat) (l1 : Int) (m : Mem) : Option Int :=
  if shK l0 = 10 + 10 then (
    if l1 < 0 then (
      some (-1)
    ) else (
      (getI 10 17 l0 m).bind fun t1 =>
      if t1 ≤ l1 then (
        some (-1)
      ) else (
        (getR 10 16 l0 m).bind fun t2 =>
        (aldI t2 l1 m).bind fun t3 =>
        some t3
      )
    )
  ) else none
-- DewBaron.on()Z
def X10_on_L40_b (N : Nat) (k75 : Nat → Mem → Option (Int × Mem)) (r40 : Nat → Int → Mem → Option (Int × Mem)) (l0 : Nat) (l2 : Int) (m : Mem) : Option (Int × Mem) :=
  (getR 10 3 l0 m).bind fun t7 =>
  (X5_cells t7 m).bind fun p8 =>
  if p8 ≤ l2 then (
    k75 l0 m
  ) else (
    (getR 10 5 l0 m).bind fun t9 =>
    (getR 1 0 t9 m).bind fun t10 =>
    (getR 10 0 l0 m).bind fun t11 =>
    (X10_wallAt l2 m).bind fun p12 =>
    (aldI t11 p12 m).bind fun t13 =>
    (astI t10 l2 t13 m).bind fun m14 =>
    r40 l0 (wI (l2 + 1)) m14
  )
def X10_on_L40 (N : Nat) (k75 : Nat → Mem → Option (Int × Mem)) : Nat → Nat → Int → Mem → Option (Int × Mem)
  | 0 => fun _ _ _ => none
  | f + 1 => X10_on_L40_b N k75 (X10_on_L40 N k75 f)
def X10_on_L77_b (N : Nat) (k121 : Nat → Mem → Option (Int × Mem)) (r77 : Nat → Int → Mem → Option (Int × Mem)) (l0 : Nat) (l2 : Int) (m : Mem) : Option (Int × Mem) :=
  (getR 10 3 l0 m).bind fun t18 =>
  (getI 5 12 t18 m).bind fun t19 =>
  if t19 ≤ l2 then (
    k121 l0 m
  ) else (
    (getR 10 5 l0 m).bind fun t20 =>
    (getR 1 1 t20 m).bind fun t21 =>
    (getR 10 3 l0 m).bind fun t22 =>
    (getR 5 13 t22 m).bind fun t23 =>
    (aldI t23 l2 m).bind fun t24 =>
    (getR 10 0 l0 m).bind fun t25 =>
    (X10_clothAt l0 l2 m).bind fun p26 =>
    (aldI t25 p26 m).bind fun t27 =>
    (astI t21 t24 t27 m).bind fun m28 =>
    r77 l0 (wI (l2 + 1)) m28
  )
def X10_on_L77 (N : Nat) (k121 : Nat → Mem → Option (Int × Mem)) : Nat → Nat → Int → Mem → Option (Int × Mem)
  | 0 => fun _ _ _ => none
  | f + 1 => X10_on_L77_b N k121 (X10_on_L77 N k121 f)
def X10_on_L123_b (N : Nat) (k158 : Nat → Mem → Option (Int × Mem)) (r123 : Nat → Int → Mem → Option (Int × Mem)) (l0 : Nat) (l2 : Int) (m : Mem) : Option (Int × Mem) :=
  (getR 10 3 l0 m).bind fun t32 =>
  (getI 5 6 t32 m).bind fun t33 =>
  if t33 ≤ l2 then (
    k158 l0 m
  ) else (
    (getR 10 5 l0 m).bind fun t34 =>
    (getR 1 2 t34 m).bind fun t35 =>
    (X10_dropsAt l0 l2 m).bind fun p36 =>
    (X10_twoAt l0 p36 m).bind fun p37 =>
    (astI t35 l2 p37 m).bind fun m38 =>
    r123 l0 (wI (l2 + 1)) m38
  )
def X10_on_L123 (N : Nat) (k158 : Nat → Mem → Option (Int × Mem)) : Nat → Nat → Int → Mem → Option (Int × Mem)
  | 0 => fun _ _ _ => none
  | f + 1 => X10_on_L123_b N k158 (X10_on_L123 N k158 f)
def X10_on (N : Nat) (l0 : Nat) (m : Mem) : Option (Int × Mem) :=
  if shK l0 = 10 + 10 then (
    (getI 10 1 l0 m).bind fun t1 =>
    (putI 10 1 l0 0 m).bind fun m2 =>
    (X10_isImage N l0 t1 m2).bind fun p3 =>
    if ¬ p3 = 0 then (
      (getR 10 5 l0 m2).bind fun t4 =>
      (X10_twoAt l0 0 m2).bind fun p5 =>
      (putI 1 3 t4 p5 m2).bind fun m6 =>
      X10_on_L40 N (fun z16 m17 =>
          X10_on_L77 N (fun z30 m31 =>
              X10_on_L123 N (fun z40 m41 =>
                  (getR 10 7 z40 m41).bind fun t42 =>
                  (X4_forget t42 m41).bind fun p43 =>
                  (X10_changed z40 p43).bind fun p44 =>
                  (retZ 1).bind fun r45 => some (r45, p44)) N z30 0 m31) N z16 0 m17) N l0 0 m6
    ) else (
      (X10_refuse l0 5 m2).bind fun p46 =>
      (retZ 0).bind fun r47 => some (r47, p46.2)
    )
  ) else none
-- DewBaron$Wringing.gotFrom(II)I
def X9_gotFrom (l0 : Nat) (l1 : Int) (l2 : Int) (m : Mem) : Option Int :=
  if shK l0 = 9 + 10 then (
    if l1 < 0 then (
      some 0
    ) else (
      (getI 9 2 l0 m).bind fun t1 =>
      if l1 < t1 then (
        (getI 9 3 l0 m).bind fun t2 =>
        (getR 9 1 l0 m).bind fun t3 =>
        (aldI t3 l1 m).bind fun t4 =>
        (getR 9 0 l0 m).bind fun t5 =>
        (aldI t5 l1 m).bind fun t6 =>
        some (max 0 (wI (t6 - (max 0 (wI ((wI (l2 * t2)) - t4))))))
      ) else (
        some 0
      )
    )
  ) else none
-- DewBaron$Wringing.gotBy(II)I
def X9_gotBy (l0 : Nat) (l1 : Int) (l2 : Int) (m : Mem) : Option Int :=
  if shK l0 = 9 + 10 then (
    (J6_bitCount_0f7a4 l2 m).bind fun p1 =>
    (X9_gotFrom l0 l1 p1 m).bind fun p2 =>
    (getR 9 4 l0 m).bind fun t3 =>
    (aldI t3 (ior l2 (ishl 1 l1)) m).bind fun t4 =>
    some (wI (p2 + t4))
  ) else none
-- DewBaron$Wringing.findOrder()V
def X9_findOrder_J80 (N : Nat) (r43 : Nat → Int → Int → Mem → Option Mem) (l0 : Nat) (l2 : Int) (l3 : Int) (m : Mem) : Option Mem :=
  r43 l0 l2 (wI (l3 + 1)) m
def X9_findOrder_L43_b (N : Nat) (k86 : Nat → Int → Mem → Option Mem) (r43 : Nat → Int → Int → Mem → Option Mem) (l0 : Nat) (l2 : Int) (l3 : Int) (m : Mem) : Option Mem :=
  (getI 9 2 l0 m).bind fun t7 =>
  if t7 ≤ l3 then (
    k86 l0 l2 m
  ) else (
    if ¬ (iand (ishr l2 l3) 1) = 0 then (
      X9_findOrder_J80 N r43 l0 l2 l3 m
    ) else (
      (getR 9 4 l0 m).bind fun t8 =>
      (getR 9 4 l0 m).bind fun t9 =>
      (aldI t9 l2 m).bind fun t10 =>
      (X9_gotBy l0 l3 l2 m).bind fun p11 =>
      (astI t8 l2 (max t10 p11) m).bind fun m12 =>
      X9_findOrder_J80 N r43 l0 l2 l3 m12
    )
  )
def X9_findOrder_L43 (N : Nat) (k86 : Nat → Int → Mem → Option Mem) : Nat → Nat → Int → Int → Mem → Option Mem
  | 0 => fun _ _ _ _ => none
  | f + 1 => X9_findOrder_L43_b N k86 (X9_findOrder_L43 N k86 f)
def X9_findOrder_L30_b (N : Nat) (r30 : Nat → Int → Mem → Option Mem) (l0 : Nat) (l2 : Int) (m : Mem) : Option Mem :=
  if l2 < 0 then (
    some m
  ) else (
    (getR 9 4 l0 m).bind fun t5 =>
    (astI t5 l2 0 m).bind fun m6 =>
    X9_findOrder_L43 N (fun z15 z16 m17 =>
        r30 z15 (wI (z16 + (-1))) m17) N l0 l2 0 m6
  )
def X9_findOrder_L30 (N : Nat) : Nat → Nat → Int → Mem → Option Mem
  | 0 => fun _ _ _ => none
  | f + 1 => X9_findOrder_L30_b N (X9_findOrder_L30 N f)
def X9_findOrder (N : Nat) (l0 : Nat) (m : Mem) : Option Mem :=
  if shK l0 = 9 + 10 then (
    (getI 9 2 l0 m).bind fun t1 =>
    if t1 ≤ 6 then (
      (getI 9 2 l0 m).bind fun t2 =>
      (getR 9 4 l0 m).bind fun t3 =>
      (astI t3 (wI ((ishl 1 t2) - 1)) 0 m).bind fun m4 =>
      X9_findOrder_L30 N N l0 (wI ((wI ((ishl 1 t2) - 1)) - 1)) m4
    ) else (
      some m
    )
  ) else none
-- DewBaron$Wringing.mostGot()I
def X9_mostGot (l0 : Nat) (m : Mem) : Option Int :=
  if shK l0 = 9 + 10 then (
    (getR 9 4 l0 m).bind fun t1 =>
    (aldI t1 0 m).bind fun t2 =>
    some t2
  ) else none
-- DewBaron$Wringing.nextBy(I)I
def X9_nextBy_J35 (N : Nat) (r2 : Nat → Int → Int → Option Int) (l0 : Nat) (l1 : Int) (l2 : Int) (m : Mem) : Option Int :=
  r2 l0 l1 (wI (l2 + 1))
def X9_nextBy_L2_b (N : Nat) (m : Mem) (r2 : Nat → Int → Int → Option Int) (l0 : Nat) (l1 : Int) (l2 : Int) : Option Int :=
  (getI 9 2 l0 m).bind fun t1 =>
  if t1 ≤ l2 then (
    some (-1)
  ) else (
    if ¬ (iand (ishr l1 l2) 1) = 0 then (
      X9_nextBy_J35 N r2 l0 l1 l2 m
    ) else (
      (X9_gotBy l0 l2 l1 m).bind fun p2 =>
      (getR 9 4 l0 m).bind fun t3 =>
      (aldI t3 l1 m).bind fun t4 =>
      if ¬ p2 = t4 then (
        X9_nextBy_J35 N r2 l0 l1 l2 m
      ) else (
        some l2
      )
    )
  )
def X9_nextBy_L2 (N : Nat) (m : Mem) : Nat → Nat → Int → Int → Option Int
  | 0 => fun _ _ _ => none
  | f + 1 => X9_nextBy_L2_b N m (X9_nextBy_L2 N m f)
def X9_nextBy (N : Nat) (l0 : Nat) (l1 : Int) (m : Mem) : Option Int :=
  if shK l0 = 9 + 10 then (
    X9_nextBy_L2 N m N l0 l1 0
  ) else none
-- DewBaron$Wringing.wrungAt(I)I
def X9_wrungAt_J41 (N : Nat) (r7 : Nat → Int → Int → Int → Int → Option Int) (l0 : Nat) (l1 : Int) (l3 : Int) (l4 : Int) (s0 : Int) (s1 : Int) (m : Mem) : Option Int :=
  r7 l0 l1 (ior s0 s1) l3 (wI (l4 + 1))
def X9_wrungAt_L7_b (N : Nat) (m : Mem) (r7 : Nat → Int → Int → Int → Int → Option Int) (l0 : Nat) (l1 : Int) (l2 : Int) (l3 : Int) (l4 : Int) : Option Int :=
  if l1 < l4 then (
    some l3
  ) else (
    (getI 9 2 l0 m).bind fun t1 =>
    if t1 ≤ l4 then (
      some l3
    ) else (
      (X9_nextBy N l0 l2 m).bind fun p2 =>
      if ¬ p2 = (-1) then (
        X9_wrungAt_J41 N r7 l0 l1 p2 l4 l2 (ishl 1 p2) m
      ) else (
        X9_wrungAt_J41 N r7 l0 l1 p2 l4 l2 0 m
      )
    )
  )
def X9_wrungAt_L7 (N : Nat) (m : Mem) : Nat → Nat → Int → Int → Int → Int → Option Int
  | 0 => fun _ _ _ _ _ => none
  | f + 1 => X9_wrungAt_L7_b N m (X9_wrungAt_L7 N m f)
def X9_wrungAt (N : Nat) (l0 : Nat) (l1 : Int) (m : Mem) : Option Int :=
  if shK l0 = 9 + 10 then (
    X9_wrungAt_L7 N m N l0 l1 0 (-1) 0
  ) else none
-- DewBaron.order(I)I
def X10_order (N : Nat) (l0 : Nat) (l1 : Int) (m : Mem) : Option (Int × Mem) :=
  if shK l0 = 10 + 10 then (
    (getR 10 3 l0 m).bind fun t1 =>
    (getI 5 12 t1 m).bind fun t2 =>
    if 6 < t2 then (
      some ((-1), m)
    ) else (
      if l1 < (-1) then (
        some ((-1), m)
      ) else (
        (getR 10 3 l0 m).bind fun t3 =>
        (getI 5 12 t3 m).bind fun t4 =>
        if l1 < t4 then (
          (getR 10 13 l0 m).bind fun t5 =>
          (getR 10 3 l0 m).bind fun t6 =>
          (getR 10 5 l0 m).bind fun t7 =>
          (X10_asTold N l0 m).bind fun p8 =>
          (X9_prepare N t5 t6 t7 p8.1 p8.2).bind fun p9 =>
          (getR 10 13 l0 p9).bind fun t10 =>
          (X9_findOrder N t10 p9).bind fun p11 =>
          if ¬ l1 = (-1) then (
            (getR 10 13 l0 p11).bind fun t12 =>
            (X9_wrungAt N t12 l1 p11).bind fun p13 =>
            some (p13, p11)
          ) else (
            (getR 10 13 l0 p11).bind fun t14 =>
            (X9_mostGot t14 p11).bind fun p15 =>
            some (p15, p11)
          )
        ) else (
          some ((-1), m)
        )
      )
    )
  ) else none
-- DewBaron.seed(I)Z
def X10_seed (l0 : Nat) (l1 : Int) (m : Mem) : Option (Int × Mem) :=
  if shK l0 = 10 + 10 then (
    if 0 ≤ l1 then (
      (putI 10 8 l0 l1 m).bind fun m1 =>
      (retZ 1).bind fun r2 => some (r2, m1)
    ) else (
      (X10_refuse l0 5 m).bind fun p3 =>
      (retZ 0).bind fun r4 => some (r4, p3.2)
    )
  ) else none
-- DewBaron.sky(I)I
def X10_sky (l0 : Nat) (l1 : Int) (m : Mem) : Option Int :=
  if shK l0 = 10 + 10 then (
    (X10_isHour l1 m).bind fun p1 =>
    if p1 = 0 then (
      some (-1)
    ) else (
      (getR 10 3 l0 m).bind fun t2 =>
      (getR 5 15 t2 m).bind fun t3 =>
      (aldI t3 l1 m).bind fun t4 =>
      some t4
    )
  ) else none
-- DewBaron.status(I)I
def X10_status (l0 : Nat) (l1 : Int) (m : Mem) : Option Int :=
  if shK l0 = 10 + 10 then (
    if l1 < 0 then (
      some (-1)
    ) else (
      (getR 10 18 l0 m).bind fun t1 =>
      (alen t1).bind fun t2 =>
      if t2 ≤ l1 then (
        some (-1)
      ) else (
        (getR 10 18 l0 m).bind fun t3 =>
        (aldI t3 l1 m).bind fun t4 =>
        some t4
      )
    )
  ) else none
-- DewBaron$Land.firstTooDry(LDewBaron$Plan;LDewBaron$Night;)I
def X1_firstTooDry_L2_b (N : Nat) (m : Mem) (r2 : Nat → Nat → Nat → Int → Option Int) (l0 : Nat) (l1 : Nat) (l2 : Nat) (l3 : Int) : Option Int :=
  (getI 5 6 l1 m).bind fun t1 =>
  if t1 ≤ l3 then (
    some (-1)
  ) else (
    (X1_filled l0 l2 l3 m).bind fun p2 =>
    (getI 5 17 l1 m).bind fun t3 =>
    if t3 ≤ p2 then (
      r2 l0 l1 l2 (wI (l3 + 1))
    ) else (
      some l3
    )
  )
def X1_firstTooDry_L2 (N : Nat) (m : Mem) : Nat → Nat → Nat → Nat → Int → Option Int
  | 0 => fun _ _ _ _ => none
  | f + 1 => X1_firstTooDry_L2_b N m (X1_firstTooDry_L2 N m f)
def X1_firstTooDry (N : Nat) (l0 : Nat) (l1 : Nat) (l2 : Nat) (m : Mem) : Option Int :=
  if shK l0 = 1 + 10 then (
    X1_firstTooDry_L2 N m N l0 l1 l2 0
  ) else none
-- DewBaron.stores(I)I
def X10_stores_L29_b (N : Nat) (k56 : Int → Int → Int → Mem → Option (Int × Mem)) (r29 : Nat → Int → Nat → Int → Mem → Option (Int × Mem)) (l0 : Nat) (l1 : Int) (l2 : Nat) (l3 : Int) (m : Mem) : Option (Int × Mem) :=
  if 999 < l3 then (
    some ((-1), m)
  ) else (
    (getR 10 6 l0 m).bind fun t5 =>
    (getR 10 3 l0 m).bind fun t6 =>
    (X1_firstTooDry N t5 t6 l2 m).bind fun p7 =>
    if p7 = (-1) then (
      (getR 10 6 l0 m).bind fun t8 =>
      (getR 10 3 l0 m).bind fun t9 =>
      (X1_pour N t8 t9 l2 m).bind fun p10 =>
      r29 l0 l1 l2 (wI (l3 + 1)) p10.2
    ) else (
      k56 l1 l3 p7 m
    )
  )
def X10_stores_L29 (N : Nat) (k56 : Int → Int → Int → Mem → Option (Int × Mem)) : Nat → Nat → Int → Nat → Int → Mem → Option (Int × Mem)
  | 0 => fun _ _ _ _ _ => none
  | f + 1 => X10_stores_L29_b N k56 (X10_stores_L29 N k56 f)
def X10_stores (N : Nat) (l0 : Nat) (l1 : Int) (m : Mem) : Option (Int × Mem) :=
  if shK l0 = 10 + 10 then (
    if l1 < 0 then (
      some ((-1), m)
    ) else (
      if l1 ≤ 1 then (
        (X10_asTold N l0 m).bind fun p1 =>
        (getR 10 6 l0 p1.2).bind fun t2 =>
        (getR 10 5 l0 p1.2).bind fun t3 =>
        (X1_copyFrom t2 t3 p1.2).bind fun p4 =>
        X10_stores_L29 N (fun z13 z14 z15 m16 =>
            if ¬ z13 = 0 then (
              some (z15, m16)
            ) else (
              some (z14, m16)
            )) N l0 l1 p1.1 1 p4
      ) else (
        some ((-1), m)
      )
    )
  ) else none
-- DewBaron.thing(II)I
def X10_thing (N : Nat) (l0 : Nat) (l1 : Int) (l2 : Int) (m : Mem) : Option (Int × Mem) :=
  if shK l0 = 10 + 10 then (
    (getR 10 3 l0 m).bind fun t1 =>
    (X5_isThing t1 l1 m).bind fun p2 =>
    if ¬ p2 = 0 then (
      if l2 = 0 then (
        (getR 10 5 l0 m).bind fun t3 =>
        (getR 1 1 t3 m).bind fun t4 =>
        (aldI t4 l1 m).bind fun t5 =>
        some (t5, m)
      ) else
      if l2 = 1 then (
        (getR 10 3 l0 m).bind fun t7 =>
        (getR 5 10 t7 m).bind fun t8 =>
        (aldI t8 l1 m).bind fun t9 =>
        some (t9, m)
      ) else
      if l2 = 2 then (
        (getR 10 3 l0 m).bind fun t11 =>
        (getR 5 11 t11 m).bind fun t12 =>
        (aldI t12 l1 m).bind fun t13 =>
        some (t13, m)
      ) else
      if l2 = 3 then (
        (getR 10 3 l0 m).bind fun t15 =>
        (getR 10 5 l0 m).bind fun t16 =>
        (getR 1 1 t16 m).bind fun t17 =>
        (aldI t17 l1 m).bind fun t18 =>
        (X5_nearest N t15 t18 m).bind fun p19 =>
        some (p19, m)
      ) else
      if l2 = 4 then (
        (X10_asTold N l0 m).bind fun p21 =>
        (X3_dawn p21.1 l1 p21.2).bind fun p22 =>
        some (p22, p21.2)
      ) else
      some ((-1), m)
    ) else (
      some ((-1), m)
    )
  ) else none
-- DewBaron$Past.restore(LDewBaron$Land;)V
def X4_restore (l0 : Nat) (l1 : Nat) (m : Mem) : Option Mem :=
  if shK l0 = 4 + 10 then (
    (getI 4 2 l0 m).bind fun t1 =>
    if t1 ≤ 0 then (
      some m
    ) else (
      (getI 4 1 l0 m).bind fun t2 =>
      (putI 4 1 l0 (wI (Int.tmod (wI ((wI (t2 + 20)) - 1)) 20)) m).bind fun m3 =>
      (getR 4 0 l0 m3).bind fun t4 =>
      (getI 4 1 l0 m3).bind fun t5 =>
      (aldR t4 t5 m3).bind fun t6 =>
      (X1_copyFrom l1 t6 m3).bind fun p7 =>
      (getI 4 2 l0 p7).bind fun t8 =>
      (putI 4 2 l0 (wI (t8 - 1)) p7).bind fun m9 =>
      some m9
    )
  ) else none
-- DewBaron.undo()Z
def X10_undo (l0 : Nat) (m : Mem) : Option (Int × Mem) :=
  if shK l0 = 10 + 10 then (
    (getR 10 7 l0 m).bind fun t1 =>
    (getI 4 2 t1 m).bind fun t2 =>
    if ¬ t2 = 0 then (
      (getR 10 7 l0 m).bind fun t3 =>
      (getR 10 5 l0 m).bind fun t4 =>
      (X4_restore t3 t4 m).bind fun p5 =>
      (X10_changed l0 p5).bind fun p6 =>
      (retZ 1).bind fun r7 => some (r7, p6)
    ) else (
      (X10_refuse l0 4 m).bind fun p8 =>
      (retZ 0).bind fun r9 => some (r9, p8.2)
    )
  ) else none
-- DewBaron.unlikeBytes(II)Z
def X10_unlikeBytes_L22_b (N : Nat) (k52 : Nat → Int → Int → Int → Option Int) (m : Mem) (r22 : Nat → Int → Int → Int → Int → Option Int) (l0 : Nat) (l1 : Int) (l2 : Int) (l3 : Int) (l4 : Int) : Option Int :=
  if l3 ≤ l4 then (
    k52 l0 l1 l2 l3
  ) else (
    (getR 10 0 l0 m).bind fun t3 =>
    (aldI t3 l4 m).bind fun t4 =>
    (getR 10 0 l0 m).bind fun t5 =>
    (aldI t5 l3 m).bind fun t6 =>
    if ¬ t4 = t6 then (
      r22 l0 l1 l2 l3 (wI (l4 + 1))
    ) else (
      retZ 0
    )
  )
def X10_unlikeBytes_L22 (N : Nat) (k52 : Nat → Int → Int → Int → Option Int) (m : Mem) : Nat → Nat → Int → Int → Int → Int → Option Int
  | 0 => fun _ _ _ _ _ => none
  | f + 1 => X10_unlikeBytes_L22_b N k52 m (X10_unlikeBytes_L22 N k52 m f)
def X10_unlikeBytes_L2_b (N : Nat) (m : Mem) (r2 : Nat → Int → Int → Int → Option Int) (l0 : Nat) (l1 : Int) (l2 : Int) (l3 : Int) : Option Int :=
  if l1 ≤ l3 then (
    retZ 1
  ) else (
    (getR 10 0 l0 m).bind fun t1 =>
    (aldI t1 l3 m).bind fun t2 =>
    if t2 < l2 then (
      X10_unlikeBytes_L22 N (fun z9 z10 z11 z12 =>
          r2 z9 z10 z11 (wI (z12 + 1))) m N l0 l1 l2 l3 0
    ) else (
      retZ 0
    )
  )
def X10_unlikeBytes_L2 (N : Nat) (m : Mem) : Nat → Nat → Int → Int → Int → Option Int
  | 0 => fun _ _ _ _ => none
  | f + 1 => X10_unlikeBytes_L2_b N m (X10_unlikeBytes_L2 N m f)
def X10_unlikeBytes (N : Nat) (l0 : Nat) (l1 : Int) (l2 : Int) (m : Mem) : Option Int :=
  if shK l0 = 10 + 10 then (
    X10_unlikeBytes_L2 N m N l0 l1 l2 0
  ) else none
-- DewBaron.votes(II)I
def X10_votes_J79 (N : Nat) (r38 : Nat → Int → Nat → Int → Int → Mem → Option (Int × Mem)) (l0 : Nat) (l2 : Int) (l3 : Nat) (l4 : Int) (l5 : Int) (m : Mem) : Option (Int × Mem) :=
  r38 l0 l2 l3 l4 (wI (l5 + 1)) m
def X10_votes_J76 (N : Nat) (r38 : Nat → Int → Nat → Int → Int → Mem → Option (Int × Mem)) (l0 : Nat) (l2 : Int) (l3 : Nat) (l4 : Int) (l5 : Int) (m : Mem) : Option (Int × Mem) :=
  X10_votes_J79 N r38 l0 l2 l3 (wI (l4 + 1)) l5 m
def X10_votes_L38_b (N : Nat) (r38 : Nat → Int → Nat → Int → Int → Mem → Option (Int × Mem)) (l0 : Nat) (l2 : Int) (l3 : Nat) (l4 : Int) (l5 : Int) (m : Mem) : Option (Int × Mem) :=
  (getR 10 3 l0 m).bind fun t5 =>
  (getI 5 6 t5 m).bind fun t6 =>
  if t6 ≤ l5 then (
    some (l4, m)
  ) else (
    (X10_gain l0 l3 l5 m).bind fun p7 =>
    if ¬ l2 = 0 then (
      if 0 ≤ p7 then (
        X10_votes_J79 N r38 l0 l2 l3 l4 l5 m
      ) else (
        X10_votes_J76 N r38 l0 l2 l3 l4 l5 m
      )
    ) else (
      if p7 ≤ 0 then (
        X10_votes_J79 N r38 l0 l2 l3 l4 l5 m
      ) else (
        X10_votes_J76 N r38 l0 l2 l3 l4 l5 m
      )
    )
  )
def X10_votes_L38 (N : Nat) : Nat → Nat → Int → Nat → Int → Int → Mem → Option (Int × Mem)
  | 0 => fun _ _ _ _ _ _ => none
  | f + 1 => X10_votes_L38_b N (X10_votes_L38 N f)
def X10_votes (N : Nat) (l0 : Nat) (l1 : Int) (l2 : Int) (m : Mem) : Option (Int × Mem) :=
  if shK l0 = 10 + 10 then (
    (getR 10 5 l0 m).bind fun t1 =>
    (X1_hasWall t1 l1 m).bind fun p2 =>
    if p2 = 0 then (
      some ((-1), m)
    ) else (
      if l2 < 0 then (
        some ((-1), m)
      ) else (
        if l2 ≤ 1 then (
          (X10_asTold N l0 m).bind fun p3 =>
          (X10_passWithout N l0 l1 p3.2).bind fun p4 =>
          X10_votes_L38 N N l0 l2 p3.1 0 0 p4
        ) else (
          some ((-1), m)
        )
      )
    )
  ) else none
-- DewBaron$Meadow.firstAt(I)I
def X2_firstAt (l0 : Nat) (l1 : Int) (m : Mem) : Option Int :=
  if shK l0 = 2 + 10 then (
    (getI 2 4 l0 m).bind fun t1 =>
    if t1 ≤ 0 then (
      some (-1)
    ) else (
      if l1 < 0 then (
        some (-1)
      ) else (
        (getI 2 1 l0 m).bind fun t2 =>
        if t2 ≤ l1 then (
          some (-1)
        ) else (
          (getR 2 3 l0 m).bind fun t3 =>
          (aldI t3 l1 m).bind fun t4 =>
          some t4
        )
      )
    )
  ) else none
-- DewBaron.walk(I)I
def X10_walk (l0 : Nat) (l1 : Int) (m : Mem) : Option Int :=
  if shK l0 = 10 + 10 then (
    (getR 10 15 l0 m).bind fun t1 =>
    (X2_firstAt t1 l1 m).bind fun p2 =>
    some p2
  ) else none
-- DewBaron$Meadow.tell([II)V
def X2_tell_L30_b (N : Nat) (k72 : Nat → Nat → Int → Int → Int → Mem → Option Mem) (r30 : Nat → Nat → Int → Int → Int → Mem → Option Mem) (l0 : Nat) (l1 : Nat) (l2 : Int) (l3 : Int) (l4 : Int) (m : Mem) : Option Mem :=
  if l4 ≤ 0 then (
    k72 l0 l1 l2 l3 l4 m
  ) else (
    (getR 2 0 l0 m).bind fun t4 =>
    (aldI t4 (wI (l4 - 1)) m).bind fun t5 =>
    (aldI l1 l3 m).bind fun t6 =>
    if t5 ≤ t6 then (
      k72 l0 l1 l2 l3 l4 m
    ) else (
      (getR 2 0 l0 m).bind fun t7 =>
      (getR 2 0 l0 m).bind fun t8 =>
      (aldI t8 (wI (l4 - 1)) m).bind fun t9 =>
      (astI t7 l4 t9 m).bind fun m10 =>
      r30 l0 l1 l2 l3 (wI (l4 + (-1))) m10
    )
  )
def X2_tell_L30 (N : Nat) (k72 : Nat → Nat → Int → Int → Int → Mem → Option Mem) : Nat → Nat → Nat → Int → Int → Int → Mem → Option Mem
  | 0 => fun _ _ _ _ _ _ => none
  | f + 1 => X2_tell_L30_b N k72 (X2_tell_L30 N k72 f)
def X2_tell_L7_b (N : Nat) (r7 : Nat → Nat → Int → Int → Mem → Option Mem) (l0 : Nat) (l1 : Nat) (l2 : Int) (l3 : Int) (m : Mem) : Option Mem :=
  if l2 ≤ l3 then (
    some m
  ) else (
    if 10 ≤ l3 then (
      some m
    ) else (
      (alen l1).bind fun t2 =>
      if t2 ≤ l3 then (
        some m
      ) else (
        (getI 2 1 l0 m).bind fun t3 =>
        X2_tell_L30 N (fun z13 z14 z15 z16 z17 m18 =>
            (getR 2 0 z13 m18).bind fun t19 =>
            (aldI z14 z16 m18).bind fun t20 =>
            (astI t19 z17 t20 m18).bind fun m21 =>
            (getI 2 1 z13 m21).bind fun t22 =>
            (putI 2 1 z13 (wI (t22 + 1)) m21).bind fun m23 =>
            r7 z13 z14 z15 (wI (z16 + 1)) m23) N l0 l1 l2 l3 t3 m
      )
    )
  )
def X2_tell_L7 (N : Nat) : Nat → Nat → Nat → Int → Int → Mem → Option Mem
  | 0 => fun _ _ _ _ _ => none
  | f + 1 => X2_tell_L7_b N (X2_tell_L7 N f)
def X2_tell (N : Nat) (l0 : Nat) (l1 : Nat) (l2 : Int) (m : Mem) : Option Mem :=
  if shK l0 = 2 + 10 then (
    (putI 2 1 l0 0 m).bind fun m1 =>
    X2_tell_L7 N N l0 l1 l2 0 m1
  ) else none
-- DewBaron$Plan.isAtEdge(I)Z
def X5_isAtEdge_J40 (m : Mem) : Option Int :=
  retZ 1
def X5_isAtEdge (l0 : Nat) (l1 : Int) (m : Mem) : Option Int :=
  if shK l0 = 5 + 10 then (
    (X5_acrossOf l0 l1 m).bind fun p1 =>
    (X5_downOf l0 l1 m).bind fun p2 =>
    if p1 = 0 then (
      X5_isAtEdge_J40 m
    ) else (
      (getI 5 0 l0 m).bind fun t3 =>
      if p1 = (wI (t3 - 1)) then (
        X5_isAtEdge_J40 m
      ) else (
        if p2 = 0 then (
          X5_isAtEdge_J40 m
        ) else (
          (getI 5 1 l0 m).bind fun t4 =>
          if ¬ p2 = (wI (t4 - 1)) then (
            retZ 0
          ) else (
            X5_isAtEdge_J40 m
          )
        )
      )
    )
  ) else none
-- DewBaron$Meadow.keep()V
def X2_keep_J22 (l0 : Nat) (m : Mem) : Option Mem :=
  (getI 2 4 l0 m).bind fun t2 =>
  (putI 2 4 l0 (wI (t2 + 1)) m).bind fun m3 =>
  some m3
def X2_keep (l0 : Nat) (m : Mem) : Option Mem :=
  if shK l0 = 2 + 10 then (
    (getI 2 4 l0 m).bind fun t1 =>
    if ¬ t1 = 0 then (
      X2_keep_J22 l0 m
    ) else (
      (getR 2 2 l0 m).bind fun t4 =>
      (getR 2 3 l0 m).bind fun t5 =>
      (acopy t4 0 t5 0 10 m).bind fun m6 =>
      X2_keep_J22 l0 m6
    )
  ) else none
-- DewBaron$Plan.areNext(II)Z
def X5_areNext (l0 : Nat) (l1 : Int) (l2 : Int) (m : Mem) : Option Int :=
  if shK l0 = 5 + 10 then (
    (X5_isCell l0 l1 m).bind fun p1 =>
    if p1 = 0 then (
      retZ 0
    ) else (
      (X5_isCell l0 l2 m).bind fun p2 =>
      if p2 = 0 then (
        retZ 0
      ) else (
        (X5_steps l0 l1 l2 m).bind fun p3 =>
        if ¬ p3 = 1 then (
          retZ 0
        ) else (
          retZ 1
        )
      )
    )
  ) else none
-- DewBaron$Meadow.tread(LDewBaron$Meadow;LDewBaron$Plan;III)V
def X2_tread_J113 (N : Nat) (self : Nat → Nat → Int → Int → Int → Mem → Option Mem) (r61 : Nat → Nat → Int → Int → Int → Int → Mem → Option Mem) (l0 : Nat) (l1 : Nat) (l2 : Int) (l4 : Int) (l5 : Int) (l6 : Int) (m : Mem) : Option Mem :=
  r61 l0 l1 l2 l4 l5 (wI (l6 + 1)) m
def X2_tread_L61_b (N : Nat) (self : Nat → Nat → Int → Int → Int → Mem → Option Mem) (r61 : Nat → Nat → Int → Int → Int → Int → Mem → Option Mem) (l0 : Nat) (l1 : Nat) (l2 : Int) (l4 : Int) (l5 : Int) (l6 : Int) (m : Mem) : Option Mem :=
  (getI 2 1 l0 m).bind fun t8 =>
  if t8 ≤ l6 then (
    some m
  ) else (
    if ¬ (iand (ishr l5 l6) 1) = 0 then (
      X2_tread_J113 N self r61 l0 l1 l2 l4 l5 l6 m
    ) else (
      (getR 2 0 l0 m).bind fun t9 =>
      (aldI t9 l2 m).bind fun t10 =>
      (getR 2 0 l0 m).bind fun t11 =>
      (aldI t11 l6 m).bind fun t12 =>
      (X5_areNext l1 t10 t12 m).bind fun p13 =>
      if p13 = 0 then (
        X2_tread_J113 N self r61 l0 l1 l2 l4 l5 l6 m
      ) else (
        (self l0 l1 l6 l5 (wI (l4 + 1)) m).bind fun p14 =>
        X2_tread_J113 N self r61 l0 l1 l2 l4 l5 l6 p14
      )
    )
  )
def X2_tread_L61 (N : Nat) (self : Nat → Nat → Int → Int → Int → Mem → Option Mem) : Nat → Nat → Nat → Int → Int → Int → Int → Mem → Option Mem
  | 0 => fun _ _ _ _ _ _ _ => none
  | f + 1 => X2_tread_L61_b N self (X2_tread_L61 N self f)
def X2_tread_c (N : Nat) (self : Nat → Nat → Int → Int → Int → Mem → Option Mem) (l0 : Nat) (l1 : Nat) (l2 : Int) (l3 : Int) (l4 : Int) (m : Mem) : Option Mem :=
  (getI 2 1 l0 m).bind fun t1 =>
  if t1 ≤ l4 then (
    some m
  ) else (
    if l2 < 0 then (
      some m
    ) else (
      (getI 2 1 l0 m).bind fun t2 =>
      if l2 < t2 then (
        (getR 2 2 l0 m).bind fun t3 =>
        (getR 2 0 l0 m).bind fun t4 =>
        (aldI t4 l2 m).bind fun t5 =>
        (astI t3 l4 t5 m).bind fun m6 =>
        (getI 2 1 l0 m6).bind fun t7 =>
        if ¬ (wI (l4 + 1)) = t7 then (
          X2_tread_L61 N self N l0 l1 l2 l4 (ior l3 (ishl 1 l2)) 0 m6
        ) else (
          (X2_keep l0 m6).bind fun p18 =>
          some p18
        )
      ) else (
        some m
      )
    )
  )
def X2_tread (N : Nat) : Nat → Nat → Nat → Int → Int → Int → Mem → Option Mem
  | 0 => fun _ _ _ _ _ _ => none
  | d + 1 => X2_tread_c N (X2_tread N d)
-- DewBaron$Meadow.findWalks(LDewBaron$Plan;LDewBaron$Land;)V
def X2_findWalks_L7_b (N : Nat) (k35 : Nat → Nat → Mem → Option Mem) (r7 : Nat → Nat → Nat → Int → Mem → Option Mem) (l0 : Nat) (l1 : Nat) (l2 : Nat) (l3 : Int) (m : Mem) : Option Mem :=
  (getI 2 1 l0 m).bind fun t2 =>
  if t2 ≤ l3 then (
    k35 l0 l1 m
  ) else (
    (getR 2 0 l0 m).bind fun t3 =>
    (aldI t3 l3 m).bind fun t4 =>
    (X1_hasWall l2 t4 m).bind fun p5 =>
    if p5 = 0 then (
      r7 l0 l1 l2 (wI (l3 + 1)) m
    ) else (
      some m
    )
  )
def X2_findWalks_L7 (N : Nat) (k35 : Nat → Nat → Mem → Option Mem) : Nat → Nat → Nat → Nat → Int → Mem → Option Mem
  | 0 => fun _ _ _ _ _ => none
  | f + 1 => X2_findWalks_L7_b N k35 (X2_findWalks_L7 N k35 f)
def X2_findWalks_J66 (N : Nat) (r37 : Nat → Nat → Int → Mem → Option Mem) (l0 : Nat) (l1 : Nat) (l3 : Int) (m : Mem) : Option Mem :=
  r37 l0 l1 (wI (l3 + 1)) m
def X2_findWalks_L37_b (N : Nat) (r37 : Nat → Nat → Int → Mem → Option Mem) (l0 : Nat) (l1 : Nat) (l3 : Int) (m : Mem) : Option Mem :=
  (getI 2 1 l0 m).bind fun t11 =>
  if t11 ≤ l3 then (
    some m
  ) else (
    (getR 2 0 l0 m).bind fun t12 =>
    (aldI t12 l3 m).bind fun t13 =>
    (X5_isAtEdge l1 t13 m).bind fun p14 =>
    if p14 = 0 then (
      X2_findWalks_J66 N r37 l0 l1 l3 m
    ) else (
      (X2_tread N 12 l0 l1 l3 0 0 m).bind fun p15 =>
      X2_findWalks_J66 N r37 l0 l1 l3 p15
    )
  )
def X2_findWalks_L37 (N : Nat) : Nat → Nat → Nat → Int → Mem → Option Mem
  | 0 => fun _ _ _ _ => none
  | f + 1 => X2_findWalks_L37_b N (X2_findWalks_L37 N f)
def X2_findWalks (N : Nat) (l0 : Nat) (l1 : Nat) (l2 : Nat) (m : Mem) : Option Mem :=
  if shK l0 = 2 + 10 then (
    (putI 2 4 l0 0 m).bind fun m1 =>
    X2_findWalks_L7 N (fun z8 z9 m10 =>
        X2_findWalks_L37 N N z8 z9 0 m10) N l0 l1 l2 0 m1
  ) else none
-- DewBaron.walked()I
def X10_walked_J36 (N : Nat) (l0 : Nat) (m : Mem) : Option (Int × Mem) :=
  (X10_refuse l0 5 m).bind fun p3 =>
  some (p3.1, p3.2)
def X10_walked (N : Nat) (l0 : Nat) (m : Mem) : Option (Int × Mem) :=
  if shK l0 = 10 + 10 then (
    (getI 10 1 l0 m).bind fun t1 =>
    (putI 10 1 l0 0 m).bind fun m2 =>
    if t1 < 2 then (
      X10_walked_J36 N l0 m2
    ) else (
      if 10 < t1 then (
        X10_walked_J36 N l0 m2
      ) else (
        (getR 10 3 l0 m2).bind fun t4 =>
        (X5_cells t4 m2).bind fun p5 =>
        (X10_unlikeBytes N l0 t1 p5 m2).bind fun p6 =>
        if ¬ p6 = 0 then (
          (getR 10 15 l0 m2).bind fun t7 =>
          (getR 10 0 l0 m2).bind fun t8 =>
          (X2_tell N t7 t8 t1 m2).bind fun p9 =>
          (getR 10 15 l0 p9).bind fun t10 =>
          (getR 10 3 l0 p9).bind fun t11 =>
          (getR 10 5 l0 p9).bind fun t12 =>
          (X2_findWalks N t10 t11 t12 p9).bind fun p13 =>
          (getR 10 15 l0 p13).bind fun t14 =>
          (getI 2 4 t14 p13).bind fun t15 =>
          some (t15, p13)
        ) else (
          X10_walked_J36 N l0 m2
        )
      )
    )
  ) else none
-- DewBaron.wall(IZ)Z
def X10_wall_J43 (N : Nat) (l0 : Nat) (m : Mem) : Option (Int × Mem) :=
  (X10_refuse l0 2 m).bind fun p3 =>
  (retZ 0).bind fun r4 => some (r4, p3.2)
def X10_wall_J79 (N : Nat) (l0 : Nat) (s0 : Nat) (s1 : Int) (s2 : Int) (m : Mem) : Option (Int × Mem) :=
  (astI s0 s1 s2 m).bind fun m12 =>
  (X10_changed l0 m12).bind fun p13 =>
  (retZ 1).bind fun r14 => some (r14, p13)
def X10_wall_J27 (N : Nat) (l0 : Nat) (l1 : Int) (l2 : Int) (s0 : Int) (m : Mem) : Option (Int × Mem) :=
  if s0 = 0 then (
    X10_wall_J43 N l0 m
  ) else (
    (getR 10 3 l0 m).bind fun t5 =>
    (X5_isCell t5 l1 m).bind fun p6 =>
    if ¬ p6 = 0 then (
      (getR 10 7 l0 m).bind fun t7 =>
      (getR 10 5 l0 m).bind fun t8 =>
      (X4_remember t7 t8 m).bind fun p9 =>
      (getR 10 5 l0 p9).bind fun t10 =>
      (getR 1 0 t10 p9).bind fun t11 =>
      if l2 = 0 then (
        X10_wall_J79 N l0 t11 l1 0 p9
      ) else (
        X10_wall_J79 N l0 t11 l1 1 p9
      )
    ) else (
      X10_wall_J43 N l0 m
    )
  )
def X10_wall (N : Nat) (l0 : Nat) (l1 : Int) (l2 : Int) (m : Mem) : Option (Int × Mem) :=
  if shK l0 = 10 + 10 then (
    if l2 = 0 then (
      (getR 10 5 l0 m).bind fun t1 =>
      (X1_hasWall t1 l1 m).bind fun p2 =>
      X10_wall_J27 N l0 l1 l2 p2 m
    ) else (
      (getR 10 3 l0 m).bind fun t18 =>
      (getR 10 5 l0 m).bind fun t19 =>
      (X5_isFree N t18 t19 l1 m).bind fun p20 =>
      X10_wall_J27 N l0 l1 l2 p20 m
    )
  ) else none
-- DewBaron$Night.cameIn(LDewBaron$Plan;I)I
def X3_cameIn_L5_b (N : Nat) (m : Mem) (r5 : Nat → Nat → Int → Int → Int → Option Int) (l0 : Nat) (l1 : Nat) (l2 : Int) (l3 : Int) (l4 : Int) : Option Int :=
  (getI 5 9 l1 m).bind fun t1 =>
  if t1 ≤ l4 then (
    some l3
  ) else (
    (getR 3 5 l0 m).bind fun t2 =>
    (aldR t2 l4 m).bind fun t3 =>
    (aldI t3 l2 m).bind fun t4 =>
    r5 l0 l1 l2 (wI (l3 + t4)) (wI (l4 + 1))
  )
def X3_cameIn_L5 (N : Nat) (m : Mem) : Nat → Nat → Nat → Int → Int → Int → Option Int
  | 0 => fun _ _ _ _ _ => none
  | f + 1 => X3_cameIn_L5_b N m (X3_cameIn_L5 N m f)
def X3_cameIn (N : Nat) (l0 : Nat) (l1 : Nat) (l2 : Int) (m : Mem) : Option Int :=
  if shK l0 = 3 + 10 then (
    X3_cameIn_L5 N m N l0 l1 l2 0 0
  ) else none
-- DewBaron$Night.allCame(LDewBaron$Plan;)I
def X3_allCame_L4_b (N : Nat) (m : Mem) (r4 : Nat → Nat → Int → Int → Option Int) (l0 : Nat) (l1 : Nat) (l2 : Int) (l3 : Int) : Option Int :=
  if 12 < l3 then (
    some l2
  ) else (
    (X3_cameIn N l0 l1 l3 m).bind fun p1 =>
    r4 l0 l1 (wI (l2 + p1)) (wI (l3 + 1))
  )
def X3_allCame_L4 (N : Nat) (m : Mem) : Nat → Nat → Nat → Int → Int → Option Int
  | 0 => fun _ _ _ _ => none
  | f + 1 => X3_allCame_L4_b N m (X3_allCame_L4 N m f)
def X3_allCame (N : Nat) (l0 : Nat) (l1 : Nat) (m : Mem) : Option Int :=
  if shK l0 = 3 + 10 then (
    X3_allCame_L4 N m N l0 l1 0 1
  ) else none
-- DewBaron$Night.allDried(LDewBaron$Plan;)I
def X3_allDried (N : Nat) (l0 : Nat) (l1 : Nat) (m : Mem) : Option Int :=
  if shK l0 = 3 + 10 then (
    (X3_allCame N l0 l1 m).bind fun p1 =>
    (X3_allByDawn N l0 l1 m).bind fun p2 =>
    some (wI (p1 - p2))
  ) else none
-- DewBaron$Night.fullestHour(LDewBaron$Plan;)I
def X3_fullestHour_J35 (N : Nat) (r7 : Nat → Nat → Int → Int → Int → Option Int) (l0 : Nat) (l1 : Nat) (l2 : Int) (l3 : Int) (l4 : Int) (m : Mem) : Option Int :=
  r7 l0 l1 l2 l3 (wI (l4 + 1))
def X3_fullestHour_L7_b (N : Nat) (m : Mem) (r7 : Nat → Nat → Int → Int → Int → Option Int) (l0 : Nat) (l1 : Nat) (l2 : Int) (l3 : Int) (l4 : Int) : Option Int :=
  if 12 < l4 then (
    some l3
  ) else (
    (X3_cameIn N l0 l1 l4 m).bind fun p1 =>
    if p1 ≤ l2 then (
      X3_fullestHour_J35 N r7 l0 l1 l2 l3 l4 m
    ) else (
      X3_fullestHour_J35 N r7 l0 l1 p1 l4 l4 m
    )
  )
def X3_fullestHour_L7 (N : Nat) (m : Mem) : Nat → Nat → Nat → Int → Int → Int → Option Int
  | 0 => fun _ _ _ _ _ => none
  | f + 1 => X3_fullestHour_L7_b N m (X3_fullestHour_L7 N m f)
def X3_fullestHour (N : Nat) (l0 : Nat) (l1 : Nat) (m : Mem) : Option Int :=
  if shK l0 = 3 + 10 then (
    X3_fullestHour_L7 N m N l0 l1 0 (-1) 1
  ) else none
-- DewBaron$Night.fullestThing(LDewBaron$Plan;)I
def X3_fullestThing_J36 (N : Nat) (r7 : Nat → Nat → Int → Int → Int → Option Int) (l0 : Nat) (l1 : Nat) (l2 : Int) (l3 : Int) (l4 : Int) (m : Mem) : Option Int :=
  r7 l0 l1 l2 l3 (wI (l4 + 1))
def X3_fullestThing_L7_b (N : Nat) (m : Mem) (r7 : Nat → Nat → Int → Int → Int → Option Int) (l0 : Nat) (l1 : Nat) (l2 : Int) (l3 : Int) (l4 : Int) : Option Int :=
  (getI 5 9 l1 m).bind fun t1 =>
  if t1 ≤ l4 then (
    some l3
  ) else (
    (X3_dawn l0 l4 m).bind fun p2 =>
    if p2 ≤ l2 then (
      X3_fullestThing_J36 N r7 l0 l1 l2 l3 l4 m
    ) else (
      (X3_dawn l0 l4 m).bind fun p3 =>
      X3_fullestThing_J36 N r7 l0 l1 p3 l4 l4 m
    )
  )
def X3_fullestThing_L7 (N : Nat) (m : Mem) : Nat → Nat → Nat → Int → Int → Int → Option Int
  | 0 => fun _ _ _ _ _ => none
  | f + 1 => X3_fullestThing_L7_b N m (X3_fullestThing_L7 N m f)
def X3_fullestThing (N : Nat) (l0 : Nat) (l1 : Nat) (m : Mem) : Option Int :=
  if shK l0 = 3 + 10 then (
    X3_fullestThing_L7 N m N l0 l1 0 (-1) 0
  ) else none
-- DewBaron.whole(I)I
def X10_whole (N : Nat) (l0 : Nat) (l1 : Int) (m : Mem) : Option (Int × Mem) :=
  if shK l0 = 10 + 10 then (
    (X10_hasIsland l0 m).bind fun p1 =>
    if ¬ p1 = 0 then (
      if l1 = 0 then (
        (X10_asTold N l0 m).bind fun p2 =>
        (getR 10 3 l0 p2.2).bind fun t3 =>
        (X3_allCame N p2.1 t3 p2.2).bind fun p4 =>
        some (p4, p2.2)
      ) else
      if l1 = 1 then (
        (X10_asTold N l0 m).bind fun p6 =>
        (getR 10 3 l0 p6.2).bind fun t7 =>
        (X3_allDried N p6.1 t7 p6.2).bind fun p8 =>
        some (p8, p6.2)
      ) else
      if l1 = 2 then (
        (X10_asTold N l0 m).bind fun p10 =>
        (getR 10 3 l0 p10.2).bind fun t11 =>
        (X3_allByDawn N p10.1 t11 p10.2).bind fun p12 =>
        some (p12, p10.2)
      ) else
      if l1 = 3 then (
        (X10_asTold N l0 m).bind fun p14 =>
        (getR 10 3 l0 p14.2).bind fun t15 =>
        (X3_fullestHour N p14.1 t15 p14.2).bind fun p16 =>
        some (p16, p14.2)
      ) else
      if l1 = 4 then (
        (X10_asTold N l0 m).bind fun p18 =>
        (getR 10 3 l0 p18.2).bind fun t19 =>
        (X3_fullestThing N p18.1 t19 p18.2).bind fun p20 =>
        some (p20, p18.2)
      ) else
      some ((-1), m)
    ) else (
      some ((-1), m)
    )
  ) else none
-- DewBaron.wrung()I
def X10_wrung_J36 (N : Nat) (l0 : Nat) (m : Mem) : Option (Int × Mem) :=
  (X10_refuse l0 5 m).bind fun p5 =>
  some (p5.1, p5.2)
def X10_wrung_L65_b (N : Nat) (r65 : Nat → Int → Int → Int → Mem → Option (Int × Mem)) (l0 : Nat) (l1 : Int) (l2 : Int) (l3 : Int) (m : Mem) : Option (Int × Mem) :=
  if l1 ≤ l3 then (
    some (l2, m)
  ) else (
    (getR 10 13 l0 m).bind fun t14 =>
    (getR 10 0 l0 m).bind fun t15 =>
    (aldI t15 l3 m).bind fun t16 =>
    (X9_gotFrom t14 t16 l3 m).bind fun p17 =>
    r65 l0 l1 (wI (l2 + p17)) (wI (l3 + 1)) m
  )
def X10_wrung_L65 (N : Nat) : Nat → Nat → Int → Int → Int → Mem → Option (Int × Mem)
  | 0 => fun _ _ _ _ _ => none
  | f + 1 => X10_wrung_L65_b N (X10_wrung_L65 N f)
def X10_wrung (N : Nat) (l0 : Nat) (m : Mem) : Option (Int × Mem) :=
  if shK l0 = 10 + 10 then (
    (getI 10 1 l0 m).bind fun t1 =>
    (putI 10 1 l0 0 m).bind fun m2 =>
    (getR 10 3 l0 m2).bind fun t3 =>
    (getI 5 12 t3 m2).bind fun t4 =>
    if ¬ t1 = t4 then (
      X10_wrung_J36 N l0 m2
    ) else (
      (getR 10 3 l0 m2).bind fun t6 =>
      (getI 5 12 t6 m2).bind fun t7 =>
      (X10_unlikeBytes N l0 t1 t7 m2).bind fun p8 =>
      if ¬ p8 = 0 then (
        (getR 10 13 l0 m2).bind fun t9 =>
        (getR 10 3 l0 m2).bind fun t10 =>
        (getR 10 5 l0 m2).bind fun t11 =>
        (X10_asTold N l0 m2).bind fun p12 =>
        (X9_prepare N t9 t10 t11 p12.1 p12.2).bind fun p13 =>
        X10_wrung_L65 N N l0 t1 0 0 p13
      ) else (
        X10_wrung_J36 N l0 m2
      )
    )
  ) else none
-- DewBaronModel.add(II)V
def X11_add (l0 : Nat) (l1 : Int) (l2 : Int) (m : Mem) : Option Mem :=
  if shK l0 = 11 + 10 then (
    (getR 11 35 l0 m).bind fun t1 =>
    (getI 11 40 l0 m).bind fun t2 =>
    (getI 11 39 l0 m).bind fun t3 =>
    (astI t1 (wI ((wI (1600 * t2)) + t3)) l1 m).bind fun m4 =>
    (getR 11 36 l0 m4).bind fun t5 =>
    (getI 11 40 l0 m4).bind fun t6 =>
    (getI 11 39 l0 m4).bind fun t7 =>
    (astI t5 (wI ((wI (1600 * t6)) + t7)) l2 m4).bind fun m8 =>
    (getI 11 39 l0 m8).bind fun t9 =>
    (putI 11 39 l0 (wI (t9 + 1)) m8).bind fun m10 =>
    some m10
  ) else none
-- DewBaronModel.isLetter(I)Z
def X11_isLetter (l0 : Int) (m : Mem) : Option Int :=
  if l0 < 97 then (
    retZ 0
  ) else (
    if 122 < l0 then (
      retZ 0
    ) else (
      retZ 1
    )
  )
-- DewBaronModel.isDigit(I)Z
def X11_isDigit (l0 : Int) (m : Mem) : Option Int :=
  if l0 < 48 then (
    retZ 0
  ) else (
    if 57 < l0 then (
      retZ 0
    ) else (
      retZ 1
    )
  )
-- DewBaronModel.isOwn(J)Z
def X11_isOwn (l0 : Nat) (l1 : Int) (m : Mem) : Option Int :=
  if shK l0 = 11 + 10 then (
    if (lcm l1 115944460480100) = 0 then (
      retZ 1
    ) else (
      if (lcm l1 114784769370228) = 0 then (
        retZ 1
      ) else (
        if (lcm l1 24948) = 0 then (
          retZ 1
        ) else (
          if (lcm l1 2002873452) = 0 then (
            retZ 1
          ) else (
            if ¬ (lcm l1 448546567013) = 0 then (
              if (lcm l1 27981967289315950) = 0 then (
                retZ 1
              ) else (
                if (lcm l1 427021005928) = 0 then (
                  retZ 1
                ) else (
                  if (lcm l1 499850634611) = 0 then (
                    retZ 1
                  ) else (
                    if (lcm l1 495874698853) = 0 then (
                      retZ 1
                    ) else (
                      if ¬ (lcm l1 7824738) = 0 then (
                        if (lcm l1 7564153) = 0 then (
                          retZ 1
                        ) else (
                          if (lcm l1 6579575) = 0 then (
                            retZ 1
                          ) else (
                            if (lcm l1 431416239475) = 0 then (
                              retZ 1
                            ) else (
                              if (lcm l1 110442557893491) = 0 then (
                                retZ 1
                              ) else (
                                if ¬ (lcm l1 109317377582201) = 0 then (
                                  if (lcm l1 513020620391) = 0 then (
                                    retZ 1
                                  ) else (
                                    if (lcm l1 1869636974) = 0 then (
                                      retZ 1
                                    ) else (
                                      if (lcm l1 1751738216) = 0 then (
                                        retZ 1
                                      ) else (
                                        if (lcm l1 1668246628) = 0 then (
                                          retZ 1
                                        ) else (
                                          if ¬ (lcm l1 1752135026) = 0 then (
                                            if (lcm l1 427021006180) = 0 then (
                                              retZ 1
                                            ) else (
                                              if (lcm l1 2003398244) = 0 then (
                                                retZ 1
                                              ) else (
                                                if (lcm l1 495757257573) = 0 then (
                                                  retZ 1
                                                ) else (
                                                  if (lcm l1 1852137842) = 0 then (
                                                    retZ 1
                                                  ) else (
                                                    if ¬ (lcm l1 7824756) = 0 then (
                                                      if (lcm l1 7170414) = 0 then (
                                                        retZ 1
                                                      ) else (
                                                        if ¬ (lcm l1 7168376) = 0 then (
                                                          retZ 0
                                                        ) else (
                                                          retZ 1
                                                        )
                                                      )
                                                    ) else (
                                                      retZ 1
                                                    )
                                                  )
                                                )
                                              )
                                            )
                                          ) else (
                                            retZ 1
                                          )
                                        )
                                      )
                                    )
                                  )
                                ) else (
                                  retZ 1
                                )
                              )
                            )
                          )
                        )
                      ) else (
                        retZ 1
                      )
                    )
                  )
                )
              )
            ) else (
              retZ 1
            )
          )
        )
      )
    )
  ) else none
-- DewBaronModel.ahead()V
def X11_ahead_J35 (N : Nat) (r5 : Nat → Int → Mem → Option Mem) (l0 : Nat) (l1 : Int) (m : Mem) : Option Mem :=
  r5 l0 (wI (l1 + 1)) m
def X11_ahead_L5_b (N : Nat) (k41 : Nat → Int → Mem → Option Mem) (r5 : Nat → Int → Mem → Option Mem) (l0 : Nat) (l1 : Int) (m : Mem) : Option Mem :=
  (getI 11 2 l0 m).bind fun t2 =>
  if t2 ≤ l1 then (
    k41 l0 l1 m
  ) else (
    (getR 11 0 l0 m).bind fun t3 =>
    (aldI t3 l1 m).bind fun t4 =>
    if t4 = 32 then (
      X11_ahead_J35 N r5 l0 l1 m
    ) else (
      (getR 11 0 l0 m).bind fun t5 =>
      (aldI t5 l1 m).bind fun t6 =>
      if ¬ t6 = 10 then (
        k41 l0 l1 m
      ) else (
        X11_ahead_J35 N r5 l0 l1 m
      )
    )
  )
def X11_ahead_L5 (N : Nat) (k41 : Nat → Int → Mem → Option Mem) : Nat → Nat → Int → Mem → Option Mem
  | 0 => fun _ _ _ => none
  | f + 1 => X11_ahead_L5_b N k41 (X11_ahead_L5 N k41 f)
def X11_ahead_J325 (N : Nat) (r204 : Nat → Int → Int → Int → Int → Int → Mem → Option Mem) (l0 : Nat) (l1 : Int) (l2 : Int) (l3 : Int) (l4 : Int) (l5 : Int) (m : Mem) : Option Mem :=
  r204 l0 (wI (l1 + 1)) l2 l3 l4 (wI (l5 + 1)) m
def X11_ahead_J293 (N : Nat) (r204 : Nat → Int → Int → Int → Int → Int → Mem → Option Mem) (l0 : Nat) (l1 : Int) (l2 : Int) (l3 : Int) (l4 : Int) (l5 : Int) (m : Mem) : Option Mem :=
  if l4 ≤ l5 then (
    X11_ahead_J325 N r204 l0 l1 l2 l3 l4 l5 m
  ) else (
    if l3 = 0 then (
      X11_ahead_J325 N r204 l0 l1 l2 l3 l4 l5 m
    ) else (
      (getI 11 6 l0 m).bind fun t33 =>
      (getR 11 0 l0 m).bind fun t34 =>
      (aldI t34 l1 m).bind fun t35 =>
      (putI 11 6 l0 (wI ((wI ((wI (10 * t33)) + t35)) - 48)) m).bind fun m36 =>
      X11_ahead_J325 N r204 l0 l1 l2 l3 l4 l5 m36
    )
  )
def X11_ahead_J263 (N : Nat) (r204 : Nat → Int → Int → Int → Int → Int → Mem → Option Mem) (l0 : Nat) (l1 : Int) (l2 : Int) (l3 : Int) (l4 : Int) (l5 : Int) (m : Mem) : Option Mem :=
  if 8 ≤ l5 then (
    X11_ahead_J293 N r204 l0 l1 l2 l3 l4 l5 m
  ) else (
    if l2 = 0 then (
      X11_ahead_J293 N r204 l0 l1 l2 l3 l4 l5 m
    ) else (
      (getI 11 7 l0 m).bind fun t39 =>
      (getR 11 0 l0 m).bind fun t40 =>
      (aldI t40 l1 m).bind fun t41 =>
      (putI 11 7 l0 (lor (lshl t39 8) t41) m).bind fun m42 =>
      X11_ahead_J293 N r204 l0 l1 l2 l3 l4 l5 m42
    )
  )
def X11_ahead_J243 (N : Nat) (r204 : Nat → Int → Int → Int → Int → Int → Mem → Option Mem) (l0 : Nat) (l1 : Int) (l2 : Int) (l3 : Int) (l4 : Int) (l5 : Int) (m : Mem) : Option Mem :=
  if ¬ l5 = l4 then (
    X11_ahead_J263 N r204 l0 l1 l2 l3 l4 l5 m
  ) else (
    (getI 11 12 l0 m).bind fun t45 =>
    if ¬ t45 = (-1) then (
      X11_ahead_J263 N r204 l0 l1 l2 l3 l4 l5 m
    ) else (
      (putI 11 12 l0 l1 m).bind fun m46 =>
      X11_ahead_J263 N r204 l0 l1 l2 l3 l4 l5 m46
    )
  )
def X11_ahead_L204_b (N : Nat) (k334 : Nat → Int → Int → Int → Int → Mem → Option Mem) (r204 : Nat → Int → Int → Int → Int → Int → Mem → Option Mem) (l0 : Nat) (l1 : Int) (l2 : Int) (l3 : Int) (l4 : Int) (l5 : Int) (m : Mem) : Option Mem :=
  (getI 11 2 l0 m).bind fun t29 =>
  if t29 ≤ l1 then (
    k334 l0 l1 l2 l4 l5 m
  ) else (
    if l2 = 0 then (
      (getR 11 0 l0 m).bind fun t30 =>
      (aldI t30 l1 m).bind fun t31 =>
      (X11_isDigit t31 m).bind fun p32 =>
      if p32 = 0 then (
        k334 l0 l1 l2 l4 l5 m
      ) else (
        X11_ahead_J243 N r204 l0 l1 l2 l3 l4 l5 m
      )
    ) else (
      (getR 11 0 l0 m).bind fun t50 =>
      (aldI t50 l1 m).bind fun t51 =>
      (X11_isLetter t51 m).bind fun p52 =>
      if p52 = 0 then (
        k334 l0 l1 l2 l4 l5 m
      ) else (
        X11_ahead_J243 N r204 l0 l1 l2 l3 l4 l5 m
      )
    )
  )
def X11_ahead_L204 (N : Nat) (k334 : Nat → Int → Int → Int → Int → Mem → Option Mem) : Nat → Nat → Int → Int → Int → Int → Int → Mem → Option Mem
  | 0 => fun _ _ _ _ _ _ _ => none
  | f + 1 => X11_ahead_L204_b N k334 (X11_ahead_L204 N k334 f)
def X11_ahead_J199 (N : Nat) (l0 : Nat) (l1 : Int) (l2 : Int) (l3 : Int) (s0 : Int) (m : Mem) : Option Mem :=
  X11_ahead_L204 N (fun z56 z57 z58 z59 z60 m61 =>
      (putI 11 5 z56 z57 m61).bind fun m62 =>
      if z58 = 0 then (
        some m62
      ) else (
        if 8 < z60 then (
          some m62
        ) else (
          (getI 11 12 z56 m62).bind fun t63 =>
          (getI 11 4 z56 m62).bind fun t64 =>
          if ¬ t63 = (wI (t64 + z59)) then (
            some m62
          ) else (
            (getI 11 7 z56 m62).bind fun t65 =>
            (X11_isOwn z56 t65 m62).bind fun p66 =>
            if p66 = 0 then (
              some m62
            ) else (
              (putI 11 12 z56 (-1) m62).bind fun m67 =>
              some m67
            )
          )
        )
      )) N l0 l1 l2 l3 s0 0 m
def X11_ahead_J186 (N : Nat) (l0 : Nat) (l1 : Int) (l2 : Int) (l3 : Int) (s0 : Nat) (s1 : Int) (m : Mem) : Option Mem :=
  (putI 11 3 s0 s1 m).bind fun m28 =>
  if l2 = 0 then (
    X11_ahead_J199 N l0 l1 l2 l3 4 m28
  ) else (
    X11_ahead_J199 N l0 l1 l2 l3 6 m28
  )
def X11_ahead_J176 (N : Nat) (l0 : Nat) (l1 : Int) (l2 : Int) (l3 : Int) (m : Mem) : Option Mem :=
  if l2 = 0 then (
    X11_ahead_J186 N l0 l1 l2 l3 l0 2 m
  ) else (
    X11_ahead_J186 N l0 l1 l2 l3 l0 1 m
  )
def X11_ahead_J135 (N : Nat) (l0 : Nat) (l1 : Int) (l2 : Int) (l3 : Int) (m : Mem) : Option Mem :=
  (putI 11 6 l0 0 m).bind fun m24 =>
  (putI 11 7 l0 0 m24).bind fun m25 =>
  (putI 11 3 l0 3 m25).bind fun m26 =>
  (putI 11 5 l0 (wI (l1 + 1)) m26).bind fun m27 =>
  if ¬ l2 = 0 then (
    X11_ahead_J176 N l0 l1 l2 l3 m27
  ) else (
    if ¬ l3 = 0 then (
      X11_ahead_J176 N l0 l1 l2 l3 m27
    ) else (
      (getR 11 0 l0 m27).bind fun t74 =>
      (aldI t74 l1 m27).bind fun t75 =>
      (putI 11 6 l0 t75 m27).bind fun m76 =>
      some m76
    )
  )
def X11_ahead_J130 (N : Nat) (l0 : Nat) (l1 : Int) (l2 : Int) (l3 : Int) (m : Mem) : Option Mem :=
  (putI 11 12 l0 l1 m).bind fun m82 =>
  X11_ahead_J135 N l0 l1 l2 l3 m82
def X11_ahead_J98 (N : Nat) (l0 : Nat) (l1 : Int) (l2 : Int) (l3 : Int) (m : Mem) : Option Mem :=
  if l1 ≤ 0 then (
    X11_ahead_J135 N l0 l1 l2 l3 m
  ) else (
    (getR 11 0 l0 m).bind fun t79 =>
    (aldI t79 (wI (l1 - 1)) m).bind fun t80 =>
    (X11_isLetter t80 m).bind fun p81 =>
    if ¬ p81 = 0 then (
      X11_ahead_J130 N l0 l1 l2 l3 m
    ) else (
      (getR 11 0 l0 m).bind fun t83 =>
      (aldI t83 (wI (l1 - 1)) m).bind fun t84 =>
      (X11_isDigit t84 m).bind fun p85 =>
      if p85 = 0 then (
        X11_ahead_J135 N l0 l1 l2 l3 m
      ) else (
        X11_ahead_J130 N l0 l1 l2 l3 m
      )
    )
  )
def X11_ahead (N : Nat) (l0 : Nat) (m : Mem) : Option Mem :=
  if shK l0 = 11 + 10 then (
    (getI 11 5 l0 m).bind fun t1 =>
    X11_ahead_L5 N (fun z10 z11 m12 =>
        (putI 11 4 z10 z11 m12).bind fun m13 =>
        (putI 11 5 z10 z11 m13).bind fun m14 =>
        (putI 11 3 z10 0 m14).bind fun m15 =>
        (putI 11 12 z10 (-1) m15).bind fun m16 =>
        (getI 11 2 z10 m16).bind fun t17 =>
        if z11 < t17 then (
          (getR 11 0 z10 m16).bind fun t18 =>
          (aldI t18 z11 m16).bind fun t19 =>
          (X11_isLetter t19 m16).bind fun p20 =>
          (getR 11 0 z10 m16).bind fun t21 =>
          (aldI t21 z11 m16).bind fun t22 =>
          (X11_isDigit t22 m16).bind fun p23 =>
          if ¬ p20 = 0 then (
            X11_ahead_J98 N z10 z11 p20 p23 m16
          ) else (
            if p23 = 0 then (
              X11_ahead_J135 N z10 z11 p20 p23 m16
            ) else (
              X11_ahead_J98 N z10 z11 p20 p23 m16
            )
          )
        ) else (
          some m16
        )) N l0 t1 m
  ) else none
-- DewBaronModel.is(III)Z
def X11_is (l0 : Int) (l1 : Int) (l2 : Int) (m : Mem) : Option Int :=
  if l0 < l1 then (
    retZ 0
  ) else (
    if l2 < l0 then (
      retZ 0
    ) else (
      retZ 1
    )
  )
-- DewBaronModel.sortOf(I)I
def X11_sortOf (l0 : Nat) (l1 : Int) (m : Mem) : Option Int :=
  if shK l0 = 11 + 10 then (
    (getR 11 24 l0 m).bind fun t1 =>
    (getI 11 13 l0 m).bind fun t2 =>
    (aldI t1 (wI ((wI (10 * t2)) + l1)) m).bind fun t3 =>
    some t3
  ) else none
-- DewBaronModel.cloths()I
def X11_cloths_J31 (N : Nat) (r4 : Nat → Int → Int → Option Int) (l0 : Nat) (l2 : Int) (s0 : Int) (s1 : Int) (m : Mem) : Option Int :=
  r4 l0 (wI (s0 + s1)) (wI (l2 + 1))
def X11_cloths_L4_b (N : Nat) (m : Mem) (r4 : Nat → Int → Int → Option Int) (l0 : Nat) (l1 : Int) (l2 : Int) : Option Int :=
  (getR 11 23 l0 m).bind fun t1 =>
  (getI 11 13 l0 m).bind fun t2 =>
  (aldI t1 t2 m).bind fun t3 =>
  if t3 ≤ l2 then (
    some l1
  ) else (
    (X11_sortOf l0 l2 m).bind fun p4 =>
    if ¬ p4 = 0 then (
      X11_cloths_J31 N r4 l0 l2 l1 0 m
    ) else (
      X11_cloths_J31 N r4 l0 l2 l1 1 m
    )
  )
def X11_cloths_L4 (N : Nat) (m : Mem) : Nat → Nat → Int → Int → Option Int
  | 0 => fun _ _ _ => none
  | f + 1 => X11_cloths_L4_b N m (X11_cloths_L4 N m f)
def X11_cloths (N : Nat) (l0 : Nat) (m : Mem) : Option Int :=
  if shK l0 = 11 + 10 then (
    X11_cloths_L4 N m N l0 0 0
  ) else none
-- DewBaronModel.cloth(I)I
def X11_cloth_J37 (N : Nat) (r4 : Nat → Int → Int → Option Int) (l0 : Nat) (l2 : Int) (l3 : Int) (m : Mem) : Option Int :=
  r4 l0 l2 (wI (l3 + 1))
def X11_cloth_L4_b (N : Nat) (m : Mem) (r4 : Nat → Int → Int → Option Int) (l0 : Nat) (l2 : Int) (l3 : Int) : Option Int :=
  (getR 11 23 l0 m).bind fun t1 =>
  (getI 11 13 l0 m).bind fun t2 =>
  (aldI t1 t2 m).bind fun t3 =>
  if t3 ≤ l3 then (
    some (-1)
  ) else (
    (X11_sortOf l0 l3 m).bind fun p4 =>
    if p4 = 0 then (
      if ¬ l2 = 0 then (
        X11_cloth_J37 N r4 l0 (wI (l2 + (-1))) l3 m
      ) else (
        some l3
      )
    ) else (
      X11_cloth_J37 N r4 l0 l2 l3 m
    )
  )
def X11_cloth_L4 (N : Nat) (m : Mem) : Nat → Nat → Int → Int → Option Int
  | 0 => fun _ _ _ => none
  | f + 1 => X11_cloth_L4_b N m (X11_cloth_L4 N m f)
def X11_cloth (N : Nat) (l0 : Nat) (l1 : Int) (m : Mem) : Option Int :=
  if shK l0 = 11 + 10 then (
    X11_cloth_L4 N m N l0 l1 0
  ) else none
-- DewBaronModel.copies(II)V
def X11_copies_L14_b (N : Nat) (k48 : Nat → Int → Int → Mem → Option Mem) (r14 : Nat → Int → Int → Int → Mem → Option Mem) (l0 : Nat) (l1 : Int) (l2 : Int) (l3 : Int) (m : Mem) : Option Mem :=
  if 42 ≤ l3 then (
    k48 l0 l1 l2 m
  ) else (
    (getR 11 51 l0 m).bind fun t5 =>
    (getR 11 51 l0 m).bind fun t6 =>
    (aldI t6 (wI ((wI (42 * l2)) + l3)) m).bind fun t7 =>
    (astI t5 (wI ((wI (42 * l1)) + l3)) t7 m).bind fun m8 =>
    r14 l0 l1 l2 (wI (l3 + 1)) m8
  )
def X11_copies_L14 (N : Nat) (k48 : Nat → Int → Int → Mem → Option Mem) : Nat → Nat → Int → Int → Int → Mem → Option Mem
  | 0 => fun _ _ _ _ _ => none
  | f + 1 => X11_copies_L14_b N k48 (X11_copies_L14 N k48 f)
def X11_copies_L50_b (N : Nat) (k84 : Nat → Int → Int → Mem → Option Mem) (r50 : Nat → Int → Int → Int → Mem → Option Mem) (l0 : Nat) (l1 : Int) (l2 : Int) (l3 : Int) (m : Mem) : Option Mem :=
  if 10 ≤ l3 then (
    k84 l0 l1 l2 m
  ) else (
    (getR 11 52 l0 m).bind fun t14 =>
    (getR 11 52 l0 m).bind fun t15 =>
    (aldI t15 (wI ((wI (10 * l2)) + l3)) m).bind fun t16 =>
    (astI t14 (wI ((wI (10 * l1)) + l3)) t16 m).bind fun m17 =>
    r50 l0 l1 l2 (wI (l3 + 1)) m17
  )
def X11_copies_L50 (N : Nat) (k84 : Nat → Int → Int → Mem → Option Mem) : Nat → Nat → Int → Int → Int → Mem → Option Mem
  | 0 => fun _ _ _ _ _ => none
  | f + 1 => X11_copies_L50_b N k84 (X11_copies_L50 N k84 f)
def X11_copies_L86_b (N : Nat) (r86 : Nat → Int → Int → Int → Mem → Option Mem) (l0 : Nat) (l1 : Int) (l2 : Int) (l3 : Int) (m : Mem) : Option Mem :=
  if 5 ≤ l3 then (
    some m
  ) else (
    (getR 11 53 l0 m).bind fun t23 =>
    (getR 11 53 l0 m).bind fun t24 =>
    (aldI t24 (wI ((wI (5 * l2)) + l3)) m).bind fun t25 =>
    (astI t23 (wI ((wI (5 * l1)) + l3)) t25 m).bind fun m26 =>
    r86 l0 l1 l2 (wI (l3 + 1)) m26
  )
def X11_copies_L86 (N : Nat) : Nat → Nat → Int → Int → Int → Mem → Option Mem
  | 0 => fun _ _ _ _ _ => none
  | f + 1 => X11_copies_L86_b N (X11_copies_L86 N f)
def X11_copies (N : Nat) (l0 : Nat) (l1 : Int) (l2 : Int) (m : Mem) : Option Mem :=
  if shK l0 = 11 + 10 then (
    (getR 11 50 l0 m).bind fun t1 =>
    (getR 11 50 l0 m).bind fun t2 =>
    (aldI t2 l2 m).bind fun t3 =>
    (astI t1 l1 t3 m).bind fun m4 =>
    X11_copies_L14 N (fun z10 z11 z12 m13 =>
        X11_copies_L50 N (fun z19 z20 z21 m22 =>
            X11_copies_L86 N N z19 z20 z21 0 m22) N z10 z11 z12 0 m13) N l0 l1 l2 0 m4
  ) else none
-- DewBaronModel.cells()I
def X11_cells (l0 : Nat) (m : Mem) : Option Int :=
  if shK l0 = 11 + 10 then (
    (getR 11 14 l0 m).bind fun t1 =>
    (getI 11 13 l0 m).bind fun t2 =>
    (aldI t1 t2 m).bind fun t3 =>
    (getR 11 15 l0 m).bind fun t4 =>
    (getI 11 13 l0 m).bind fun t5 =>
    (aldI t4 t5 m).bind fun t6 =>
    some (wI (t3 * t6))
  ) else none
-- DewBaronModel.isWall(II)Z
def X11_isWall (l0 : Nat) (l1 : Int) (l2 : Int) (m : Mem) : Option Int :=
  if shK l0 = 11 + 10 then (
    (getR 11 51 l0 m).bind fun t1 =>
    (aldI t1 (wI ((wI (42 * l1)) + l2)) m).bind fun t2 =>
    if ¬ t2 = 1 then (
      retZ 0
    ) else (
      retZ 1
    )
  ) else none
-- DewBaronModel.isHouse(I)Z
def X11_isHouse (l0 : Nat) (l1 : Int) (m : Mem) : Option Int :=
  if shK l0 = 11 + 10 then (
    (getR 11 18 l0 m).bind fun t1 =>
    (getI 11 13 l0 m).bind fun t2 =>
    (aldI t1 (wI ((wI (42 * t2)) + l1)) m).bind fun t3 =>
    if ¬ t3 = 1 then (
      retZ 0
    ) else (
      retZ 1
    )
  ) else none
-- DewBaronModel.thingAt(II)I
def X11_thingAt_L2_b (N : Nat) (m : Mem) (r2 : Nat → Int → Int → Int → Option Int) (l0 : Nat) (l1 : Int) (l2 : Int) (l3 : Int) : Option Int :=
  (getR 11 23 l0 m).bind fun t1 =>
  (getI 11 13 l0 m).bind fun t2 =>
  (aldI t1 t2 m).bind fun t3 =>
  if t3 ≤ l3 then (
    some (-1)
  ) else (
    (getR 11 52 l0 m).bind fun t4 =>
    (aldI t4 (wI ((wI (10 * l1)) + l3)) m).bind fun t5 =>
    if ¬ t5 = l2 then (
      r2 l0 l1 l2 (wI (l3 + 1))
    ) else (
      some l3
    )
  )
def X11_thingAt_L2 (N : Nat) (m : Mem) : Nat → Nat → Int → Int → Int → Option Int
  | 0 => fun _ _ _ _ => none
  | f + 1 => X11_thingAt_L2_b N m (X11_thingAt_L2 N m f)
def X11_thingAt (N : Nat) (l0 : Nat) (l1 : Int) (l2 : Int) (m : Mem) : Option Int :=
  if shK l0 = 11 + 10 then (
    X11_thingAt_L2 N m N l0 l1 l2 0
  ) else none
-- DewBaronModel.cisternAt(I)I
def X11_cisternAt_L2_b (N : Nat) (m : Mem) (r2 : Nat → Int → Int → Option Int) (l0 : Nat) (l1 : Int) (l2 : Int) : Option Int :=
  (getR 11 21 l0 m).bind fun t1 =>
  (getI 11 13 l0 m).bind fun t2 =>
  (aldI t1 t2 m).bind fun t3 =>
  if t3 ≤ l2 then (
    some (-1)
  ) else (
    (getR 11 22 l0 m).bind fun t4 =>
    (getI 11 13 l0 m).bind fun t5 =>
    (aldI t4 (wI ((wI (5 * t5)) + l2)) m).bind fun t6 =>
    if ¬ t6 = l1 then (
      r2 l0 l1 (wI (l2 + 1))
    ) else (
      some l2
    )
  )
def X11_cisternAt_L2 (N : Nat) (m : Mem) : Nat → Nat → Int → Int → Option Int
  | 0 => fun _ _ _ => none
  | f + 1 => X11_cisternAt_L2_b N m (X11_cisternAt_L2 N m f)
def X11_cisternAt (N : Nat) (l0 : Nat) (l1 : Int) (m : Mem) : Option Int :=
  if shK l0 = 11 + 10 then (
    X11_cisternAt_L2 N m N l0 l1 0
  ) else none
-- DewBaronModel.whatIn(I)I
def X11_whatIn (N : Nat) (l0 : Nat) (l1 : Int) (m : Mem) : Option Int :=
  if shK l0 = 11 + 10 then (
    (X11_isWall l0 0 l1 m).bind fun p1 =>
    if p1 = 0 then (
      (X11_isHouse l0 l1 m).bind fun p2 =>
      if p2 = 0 then (
        (X11_thingAt N l0 0 l1 m).bind fun p3 =>
        if p3 = (-1) then (
          (X11_cisternAt N l0 l1 m).bind fun p4 =>
          if p4 = (-1) then (
            some 0
          ) else (
            some 4
          )
        ) else (
          some 3
        )
      ) else (
        some 2
      )
    ) else (
      some 1
    )
  ) else none
-- DewBaronModel.isFree(I)Z
def X11_isFree (N : Nat) (l0 : Nat) (l1 : Int) (m : Mem) : Option Int :=
  if shK l0 = 11 + 10 then (
    (X11_whatIn N l0 l1 m).bind fun p1 =>
    if ¬ p1 = 0 then (
      retZ 0
    ) else (
      retZ 1
    )
  ) else none
-- DewBaronModel.canHang(II)Z
def X11_canHang_J18 (N : Nat) (m : Mem) : Option Int :=
  retZ 1
def X11_canHang (N : Nat) (l0 : Nat) (l1 : Int) (l2 : Int) (m : Mem) : Option Int :=
  if shK l0 = 11 + 10 then (
    (getR 11 52 l0 m).bind fun t1 =>
    (aldI t1 l1 m).bind fun t2 =>
    if t2 = l2 then (
      X11_canHang_J18 N m
    ) else (
      (X11_isFree N l0 l2 m).bind fun p3 =>
      if p3 = 0 then (
        retZ 0
      ) else (
        X11_canHang_J18 N m
      )
    )
  ) else none
-- DewBaronModel.heightOf(I)I
def X11_heightOf (l0 : Nat) (l1 : Int) (m : Mem) : Option Int :=
  if shK l0 = 11 + 10 then (
    (getR 11 16 l0 m).bind fun t1 =>
    (getI 11 13 l0 m).bind fun t2 =>
    (aldI t1 (wI ((wI (42 * t2)) + l1)) m).bind fun t3 =>
    some t3
  ) else none
-- DewBaronModel.next(II)I
def X11_next_J61 (l0 : Nat) (l3 : Int) (s0 : Int) (s1 : Int) (m : Mem) : Option Int :=
  (getR 11 14 l0 m).bind fun t9 =>
  (getI 11 13 l0 m).bind fun t10 =>
  (aldI t9 t10 m).bind fun t11 =>
  (X11_is l3 0 (wI (t11 - 1)) m).bind fun p12 =>
  if p12 = 0 then (
    some (-1)
  ) else (
    (getR 11 15 l0 m).bind fun t13 =>
    (getI 11 13 l0 m).bind fun t14 =>
    (aldI t13 t14 m).bind fun t15 =>
    (X11_is (wI (s0 + s1)) 0 (wI (t15 - 1)) m).bind fun p16 =>
    if p16 = 0 then (
      some (-1)
    ) else (
      (getR 11 14 l0 m).bind fun t17 =>
      (getI 11 13 l0 m).bind fun t18 =>
      (aldI t17 t18 m).bind fun t19 =>
      some (wI ((wI ((wI (s0 + s1)) * t19)) + l3))
    )
  )
def X11_next_J30 (l0 : Nat) (l1 : Int) (l2 : Int) (s0 : Int) (s1 : Int) (m : Mem) : Option Int :=
  (getR 11 14 l0 m).bind fun t5 =>
  (getI 11 13 l0 m).bind fun t6 =>
  (aldI t5 t6 m).bind fun t7 =>
  if t7 = 0 then none else
  if ¬ l2 = 0 then (
    if ¬ l2 = 2 then (
      X11_next_J61 l0 (wI (s0 + s1)) (wI (Int.tdiv l1 t7)) 0 m
    ) else (
      X11_next_J61 l0 (wI (s0 + s1)) (wI (Int.tdiv l1 t7)) 1 m
    )
  ) else (
    X11_next_J61 l0 (wI (s0 + s1)) (wI (Int.tdiv l1 t7)) (-1) m
  )
def X11_next (l0 : Nat) (l1 : Int) (l2 : Int) (m : Mem) : Option Int :=
  if shK l0 = 11 + 10 then (
    (getR 11 14 l0 m).bind fun t1 =>
    (getI 11 13 l0 m).bind fun t2 =>
    (aldI t1 t2 m).bind fun t3 =>
    if t3 = 0 then none else
    if ¬ l2 = 1 then (
      if ¬ l2 = 3 then (
        X11_next_J30 l0 l1 l2 (wI (Int.tmod l1 t3)) 0 m
      ) else (
        X11_next_J30 l0 l1 l2 (wI (Int.tmod l1 t3)) (-1) m
      )
    ) else (
      X11_next_J30 l0 l1 l2 (wI (Int.tmod l1 t3)) 1 m
    )
  ) else none
-- DewBaronModel.flowsTo(II)I
def X11_flowsTo_J75 (N : Nat) (r5 : Nat → Int → Int → Int → Int → Option Int) (l0 : Nat) (l1 : Int) (l2 : Int) (l3 : Int) (l4 : Int) (m : Mem) : Option Int :=
  r5 l0 l1 l2 l3 (wI (l4 + 1))
def X11_flowsTo_J72 (N : Nat) (r5 : Nat → Int → Int → Int → Int → Option Int) (l0 : Nat) (l1 : Int) (l2 : Int) (l4 : Int) (l5 : Int) (m : Mem) : Option Int :=
  X11_flowsTo_J75 N r5 l0 l1 l2 l5 l4 m
def X11_flowsTo_L5_b (N : Nat) (m : Mem) (r5 : Nat → Int → Int → Int → Int → Option Int) (l0 : Nat) (l1 : Int) (l2 : Int) (l3 : Int) (l4 : Int) : Option Int :=
  if 4 ≤ l4 then (
    some l3
  ) else (
    (X11_next l0 l2 l4 m).bind fun p1 =>
    if p1 = (-1) then (
      X11_flowsTo_J75 N r5 l0 l1 l2 l3 l4 m
    ) else (
      (X11_isWall l0 l1 p1 m).bind fun p2 =>
      if ¬ p2 = 0 then (
        X11_flowsTo_J75 N r5 l0 l1 l2 l3 l4 m
      ) else (
        (X11_heightOf l0 p1 m).bind fun p3 =>
        (X11_heightOf l0 l2 m).bind fun p4 =>
        if p3 < p4 then (
          if l3 = (-1) then (
            X11_flowsTo_J72 N r5 l0 l1 l2 l4 p1 m
          ) else (
            (X11_heightOf l0 p1 m).bind fun p5 =>
            (X11_heightOf l0 l3 m).bind fun p6 =>
            if p6 ≤ p5 then (
              X11_flowsTo_J75 N r5 l0 l1 l2 l3 l4 m
            ) else (
              X11_flowsTo_J72 N r5 l0 l1 l2 l4 p1 m
            )
          )
        ) else (
          X11_flowsTo_J75 N r5 l0 l1 l2 l3 l4 m
        )
      )
    )
  )
def X11_flowsTo_L5 (N : Nat) (m : Mem) : Nat → Nat → Int → Int → Int → Int → Option Int
  | 0 => fun _ _ _ _ _ => none
  | f + 1 => X11_flowsTo_L5_b N m (X11_flowsTo_L5 N m f)
def X11_flowsTo (N : Nat) (l0 : Nat) (l1 : Int) (l2 : Int) (m : Mem) : Option Int :=
  if shK l0 = 11 + 10 then (
    X11_flowsTo_L5 N m N l0 l1 l2 (-1) 0
  ) else none
-- DewBaronModel.colds(II)V
def X11_colds_J63 (N : Nat) (r8 : Nat → Int → Int → Int → Int → Mem → Option Mem) (l0 : Nat) (l1 : Int) (l2 : Int) (l3 : Int) (l4 : Int) (s0 : Nat) (s1 : Int) (s2 : Int) (s3 : Int) (m : Mem) : Option Mem :=
  (astI s0 s1 (wI (s2 + s3)) m).bind fun m7 =>
  r8 l0 l1 l2 l3 (wI (l4 + 1)) m7
def X11_colds_J62 (N : Nat) (r8 : Nat → Int → Int → Int → Int → Mem → Option Mem) (l0 : Nat) (l1 : Int) (l2 : Int) (l3 : Int) (l4 : Int) (s0 : Nat) (s1 : Int) (s2 : Int) (m : Mem) : Option Mem :=
  X11_colds_J63 N r8 l0 l1 l2 l3 l4 s0 s1 s2 0 m
def X11_colds_L8_b (N : Nat) (k71 : Nat → Int → Int → Mem → Option Mem) (r8 : Nat → Int → Int → Int → Int → Mem → Option Mem) (l0 : Nat) (l1 : Int) (l2 : Int) (l3 : Int) (l4 : Int) (m : Mem) : Option Mem :=
  (X11_cells l0 m).bind fun p1 =>
  if p1 ≤ l4 then (
    k71 l0 l1 l3 m
  ) else (
    (getR 11 63 l0 m).bind fun t2 =>
    (getR 11 63 l0 m).bind fun t3 =>
    (aldI t3 (wI ((wI (l3 - 42)) + l4)) m).bind fun t4 =>
    (getR 11 62 l0 m).bind fun t5 =>
    (aldI t5 (wI (l2 - 1)) m).bind fun t6 =>
    if ¬ t6 = 0 then (
      X11_colds_J62 N r8 l0 l1 l2 l3 l4 t2 (wI (l3 + l4)) t4 m
    ) else (
      (X11_isWall l0 l1 l4 m).bind fun p8 =>
      if ¬ p8 = 0 then (
        X11_colds_J62 N r8 l0 l1 l2 l3 l4 t2 (wI (l3 + l4)) t4 m
      ) else (
        X11_colds_J63 N r8 l0 l1 l2 l3 l4 t2 (wI (l3 + l4)) t4 1 m
      )
    )
  )
def X11_colds_L8 (N : Nat) (k71 : Nat → Int → Int → Mem → Option Mem) : Nat → Nat → Int → Int → Int → Int → Mem → Option Mem
  | 0 => fun _ _ _ _ _ _ => none
  | f + 1 => X11_colds_L8_b N k71 (X11_colds_L8 N k71 f)
def X11_colds_J167 (N : Nat) (r83 : Nat → Int → Int → Int → Int → Mem → Option Mem) (l0 : Nat) (l1 : Int) (l3 : Int) (l4 : Int) (l5 : Int) (m : Mem) : Option Mem :=
  r83 l0 l1 l3 l4 (wI (l5 + 1)) m
def X11_colds_L83_b (N : Nat) (k173 : Nat → Int → Int → Int → Mem → Option Mem) (r83 : Nat → Int → Int → Int → Int → Mem → Option Mem) (l0 : Nat) (l1 : Int) (l3 : Int) (l4 : Int) (l5 : Int) (m : Mem) : Option Mem :=
  (X11_cells l0 m).bind fun p16 =>
  if p16 ≤ l5 then (
    k173 l0 l1 l3 l4 m
  ) else (
    (X11_heightOf l0 l5 m).bind fun p17 =>
    if ¬ p17 = l4 then (
      X11_colds_J167 N r83 l0 l1 l3 l4 l5 m
    ) else (
      (getR 11 63 l0 m).bind fun t18 =>
      (aldI t18 (wI (l3 + l5)) m).bind fun t19 =>
      if ¬ t19 = 0 then (
        (X11_flowsTo N l0 l1 l5 m).bind fun p20 =>
        if ¬ p20 = (-1) then (
          (getR 11 63 l0 m).bind fun t21 =>
          (aldI t21 (wI (l3 + p20)) m).bind fun t22 =>
          (getR 11 63 l0 m).bind fun t23 =>
          (aldI t23 (wI (l3 + l5)) m).bind fun t24 =>
          (astI t21 (wI (l3 + p20)) (wI (t22 + t24)) m).bind fun m25 =>
          (getR 11 63 l0 m25).bind fun t26 =>
          (astI t26 (wI (l3 + l5)) 0 m25).bind fun m27 =>
          X11_colds_J167 N r83 l0 l1 l3 l4 l5 m27
        ) else (
          X11_colds_J167 N r83 l0 l1 l3 l4 l5 m
        )
      ) else (
        X11_colds_J167 N r83 l0 l1 l3 l4 l5 m
      )
    )
  )
def X11_colds_L83 (N : Nat) (k173 : Nat → Int → Int → Int → Mem → Option Mem) : Nat → Nat → Int → Int → Int → Int → Mem → Option Mem
  | 0 => fun _ _ _ _ _ _ => none
  | f + 1 => X11_colds_L83_b N k173 (X11_colds_L83 N k173 f)
def X11_colds_L75_b (N : Nat) (r75 : Nat → Int → Int → Int → Mem → Option Mem) (l0 : Nat) (l1 : Int) (l3 : Int) (l4 : Int) (m : Mem) : Option Mem :=
  if l4 ≤ 0 then (
    some m
  ) else (
    X11_colds_L83 N (fun z32 z33 z34 z35 m36 =>
        r75 z32 z33 z34 (wI (z35 + (-1))) m36) N l0 l1 l3 l4 0 m
  )
def X11_colds_L75 (N : Nat) : Nat → Nat → Int → Int → Int → Mem → Option Mem
  | 0 => fun _ _ _ _ _ => none
  | f + 1 => X11_colds_L75_b N (X11_colds_L75 N f)
def X11_colds (N : Nat) (l0 : Nat) (l1 : Int) (l2 : Int) (m : Mem) : Option Mem :=
  if shK l0 = 11 + 10 then (
    X11_colds_L8 N (fun z12 z13 z14 m15 =>
        X11_colds_L75 N N z12 z13 z14 9 m15) N l0 l1 l2 (wI (42 * l2)) 0 m
  ) else none
-- DewBaronModel.takesOf(I)I
def X11_takesOf (l0 : Nat) (l1 : Int) (m : Mem) : Option Int :=
  if shK l0 = 11 + 10 then (
    (getR 11 25 l0 m).bind fun t1 =>
    (getI 11 13 l0 m).bind fun t2 =>
    (aldI t1 (wI ((wI (10 * t2)) + l1)) m).bind fun t3 =>
    some t3
  ) else none
-- DewBaronModel.opennessOf(II)I
def X11_opennessOf_J139 (N : Nat) (r5 : Nat → Int → Int → Int → Int → Option Int) (l0 : Nat) (l1 : Int) (l2 : Int) (l4 : Int) (s0 : Int) (s1 : Int) (m : Mem) : Option Int :=
  r5 l0 l1 l2 (wI (s0 + s1)) (wI (l4 + 1))
def X11_opennessOf_J138 (N : Nat) (r5 : Nat → Int → Int → Int → Int → Option Int) (l0 : Nat) (l1 : Int) (l2 : Int) (l4 : Int) (s0 : Int) (m : Mem) : Option Int :=
  X11_opennessOf_J139 N r5 l0 l1 l2 l4 s0 0 m
def X11_opennessOf_J134 (N : Nat) (r5 : Nat → Int → Int → Int → Int → Option Int) (l0 : Nat) (l1 : Int) (l2 : Int) (l4 : Int) (s0 : Int) (m : Mem) : Option Int :=
  X11_opennessOf_J139 N r5 l0 l1 l2 l4 s0 1 m
def X11_opennessOf_J97 (N : Nat) (r5 : Nat → Int → Int → Int → Int → Option Int) (l0 : Nat) (l1 : Int) (l2 : Int) (l3 : Int) (l4 : Int) (l5 : Int) (l6 : Int) (s0 : Int) (m : Mem) : Option Int :=
  if l4 = 4 then (
    X11_opennessOf_J138 N r5 l0 l1 l2 l4 l3 m
  ) else (
    if s0 = 0 then (
      X11_opennessOf_J134 N r5 l0 l1 l2 l4 l3 m
    ) else (
      (getR 11 14 l0 m).bind fun t13 =>
      (getI 11 13 l0 m).bind fun t14 =>
      (aldI t13 t14 m).bind fun t15 =>
      (X11_isWall l0 l1 (wI ((wI (l6 * t15)) + l5)) m).bind fun p16 =>
      if ¬ p16 = 0 then (
        X11_opennessOf_J138 N r5 l0 l1 l2 l4 l3 m
      ) else (
        X11_opennessOf_J134 N r5 l0 l1 l2 l4 l3 m
      )
    )
  )
def X11_opennessOf_J96 (N : Nat) (r5 : Nat → Int → Int → Int → Int → Option Int) (l0 : Nat) (l1 : Int) (l2 : Int) (l3 : Int) (l4 : Int) (l5 : Int) (l6 : Int) (m : Mem) : Option Int :=
  X11_opennessOf_J97 N r5 l0 l1 l2 l3 l4 l5 l6 0 m
def X11_opennessOf_L5_b (N : Nat) (m : Mem) (r5 : Nat → Int → Int → Int → Int → Option Int) (l0 : Nat) (l1 : Int) (l2 : Int) (l3 : Int) (l4 : Int) : Option Int :=
  if 9 ≤ l4 then (
    some l3
  ) else (
    (getR 11 14 l0 m).bind fun t1 =>
    (getI 11 13 l0 m).bind fun t2 =>
    (aldI t1 t2 m).bind fun t3 =>
    if t3 = 0 then none else
    (getR 11 14 l0 m).bind fun t5 =>
    (getI 11 13 l0 m).bind fun t6 =>
    (aldI t5 t6 m).bind fun t7 =>
    if t7 = 0 then none else
    (getR 11 14 l0 m).bind fun t9 =>
    (getI 11 13 l0 m).bind fun t10 =>
    (aldI t9 t10 m).bind fun t11 =>
    (X11_is (wI ((wI ((wI (Int.tmod l2 t3)) + (wI (Int.tmod l4 3)))) - 1)) 0 (wI (t11 - 1)) m).bind fun p12 =>
    if p12 = 0 then (
      X11_opennessOf_J96 N r5 l0 l1 l2 l3 l4 (wI ((wI ((wI (Int.tmod l2 t3)) + (wI (Int.tmod l4 3)))) - 1)) (wI ((wI ((wI (Int.tdiv l2 t7)) + (wI (Int.tdiv l4 3)))) - 1)) m
    ) else (
      (getR 11 15 l0 m).bind fun t20 =>
      (getI 11 13 l0 m).bind fun t21 =>
      (aldI t20 t21 m).bind fun t22 =>
      (X11_is (wI ((wI ((wI (Int.tdiv l2 t7)) + (wI (Int.tdiv l4 3)))) - 1)) 0 (wI (t22 - 1)) m).bind fun p23 =>
      if p23 = 0 then (
        X11_opennessOf_J96 N r5 l0 l1 l2 l3 l4 (wI ((wI ((wI (Int.tmod l2 t3)) + (wI (Int.tmod l4 3)))) - 1)) (wI ((wI ((wI (Int.tdiv l2 t7)) + (wI (Int.tdiv l4 3)))) - 1)) m
      ) else (
        X11_opennessOf_J97 N r5 l0 l1 l2 l3 l4 (wI ((wI ((wI (Int.tmod l2 t3)) + (wI (Int.tmod l4 3)))) - 1)) (wI ((wI ((wI (Int.tdiv l2 t7)) + (wI (Int.tdiv l4 3)))) - 1)) 1 m
      )
    )
  )
def X11_opennessOf_L5 (N : Nat) (m : Mem) : Nat → Nat → Int → Int → Int → Int → Option Int
  | 0 => fun _ _ _ _ _ => none
  | f + 1 => X11_opennessOf_L5_b N m (X11_opennessOf_L5 N m f)
def X11_opennessOf (N : Nat) (l0 : Nat) (l1 : Int) (l2 : Int) (m : Mem) : Option Int :=
  if shK l0 = 11 + 10 then (
    X11_opennessOf_L5 N m N l0 l1 l2 0 0
  ) else none
-- DewBaronModel.nearHouses(I)I
def X11_nearHouses_J38 (N : Nat) (r4 : Nat → Int → Int → Int → Option Int) (l0 : Nat) (l1 : Int) (l3 : Int) (s0 : Int) (s1 : Int) (m : Mem) : Option Int :=
  r4 l0 l1 (wI (s0 + s1)) (wI (l3 + 1))
def X11_nearHouses_J37 (N : Nat) (r4 : Nat → Int → Int → Int → Option Int) (l0 : Nat) (l1 : Int) (l3 : Int) (s0 : Int) (m : Mem) : Option Int :=
  X11_nearHouses_J38 N r4 l0 l1 l3 s0 0 m
def X11_nearHouses_L4_b (N : Nat) (m : Mem) (r4 : Nat → Int → Int → Int → Option Int) (l0 : Nat) (l1 : Int) (l2 : Int) (l3 : Int) : Option Int :=
  if 4 ≤ l3 then (
    some l2
  ) else (
    (X11_next l0 l1 l3 m).bind fun p1 =>
    if p1 = (-1) then (
      X11_nearHouses_J37 N r4 l0 l1 l3 l2 m
    ) else (
      (X11_isHouse l0 p1 m).bind fun p2 =>
      if p2 = 0 then (
        X11_nearHouses_J37 N r4 l0 l1 l3 l2 m
      ) else (
        X11_nearHouses_J38 N r4 l0 l1 l3 l2 1 m
      )
    )
  )
def X11_nearHouses_L4 (N : Nat) (m : Mem) : Nat → Nat → Int → Int → Int → Option Int
  | 0 => fun _ _ _ _ => none
  | f + 1 => X11_nearHouses_L4_b N m (X11_nearHouses_L4 N m f)
def X11_nearHouses (N : Nat) (l0 : Nat) (l1 : Int) (m : Mem) : Option Int :=
  if shK l0 = 11 + 10 then (
    X11_nearHouses_L4 N m N l0 l1 0 0
  ) else none
-- DewBaronModel.part(II)J
def X11_part (N : Nat) (l0 : Nat) (l1 : Int) (l2 : Int) (m : Mem) : Option Int :=
  if shK l0 = 11 + 10 then (
    (getR 11 52 l0 m).bind fun t1 =>
    (getI 11 58 l0 m).bind fun t2 =>
    (getI 11 59 l0 m).bind fun t3 =>
    (aldI t1 (wI ((wI (10 * t2)) + t3)) m).bind fun t4 =>
    (getR 11 62 l0 m).bind fun t5 =>
    (getI 11 60 l0 m).bind fun t6 =>
    (aldI t5 (wI (t6 - 1)) m).bind fun t7 =>
    if l1 = 0 then (
      some l2
    ) else
    if l1 = 1 then (
      (getI 11 59 l0 m).bind fun t9 =>
      (X11_takesOf l0 t9 m).bind fun p10 =>
      some p10
    ) else
    if l1 = 2 then (
      (getI 11 58 l0 m).bind fun t12 =>
      (X11_opennessOf N l0 t12 t4 m).bind fun p13 =>
      some p13
    ) else
    if l1 = 3 then (
      (X11_heightOf l0 t4 m).bind fun p15 =>
      some p15
    ) else
    if l1 = 4 then (
      (getR 11 63 l0 m).bind fun t17 =>
      (getI 11 60 l0 m).bind fun t18 =>
      (aldI t17 (wI ((wI (42 * t18)) + t4)) m).bind fun t19 =>
      some t19
    ) else
    if l1 = 5 then (
      (getI 11 60 l0 m).bind fun t21 =>
      some t21
    ) else
    if l1 = 6 then (
      if ¬ t7 = 1 then (
        some 0
      ) else (
        some 1
      )
    ) else
    if l1 = 7 then (
      if ¬ t7 = 2 then (
        some 0
      ) else (
        some 1
      )
    ) else
    if l1 = 8 then (
      if ¬ t7 = 3 then (
        some 0
      ) else (
        some 1
      )
    ) else
    if l1 = 9 then (
      (X11_nearHouses N l0 t4 m).bind fun p29 =>
      some p29
    ) else
    (getI 11 61 l0 m).bind fun t31 =>
    some t31
  ) else none
-- DewBaronModel.held(J)J
def X11_held (l0 : Int) (m : Mem) : Option Int :=
  if (lcm l0 1000000) ≤ 0 then (
    if 0 ≤ (lcm l0 (-1000000)) then (
      some l0
    ) else (
      some (-1000000)
    )
  ) else (
    some 1000000
  )
-- DewBaronModel.floor(JJ)J
def X11_floor_J43 (l4 : Int) (s0 : Int) (s1 : Int) (m : Mem) : Option Int :=
  if s0 = s1 then (
    some l4
  ) else (
    some (wL (l4 - 1))
  )
def X11_floor_J32 (l2 : Int) (l4 : Int) (s0 : Int) (m : Mem) : Option Int :=
  if 0 ≤ (lcm l2 0) then (
    X11_floor_J43 l4 s0 0 m
  ) else (
    X11_floor_J43 l4 s0 1 m
  )
def X11_floor (l0 : Int) (l2 : Int) (m : Mem) : Option Int :=
  if ¬ (lcm l2 0) = 0 then (
    if l2 = 0 then none else
    if l2 = 0 then none else
    if (lcm (wL (Int.tmod l0 l2)) 0) = 0 then (
      some (wL (Int.tdiv l0 l2))
    ) else (
      if 0 ≤ (lcm l0 0) then (
        X11_floor_J32 l2 (wL (Int.tdiv l0 l2)) 0 m
      ) else (
        X11_floor_J32 l2 (wL (Int.tdiv l0 l2)) 1 m
      )
    )
  ) else (
    some 0
  )
-- DewBaronModel.two(IJJ)J
def X11_two (l0 : Int) (l1 : Int) (l3 : Int) (m : Mem) : Option Int :=
  if l0 = 10 then (
    (X11_held (wL (l1 + l3)) m).bind fun p1 =>
    some p1
  ) else
  if l0 = 11 then (
    (X11_held (wL (l1 - l3)) m).bind fun p3 =>
    some p3
  ) else
  if l0 = 12 then (
    (X11_held (wL (l1 * l3)) m).bind fun p5 =>
    some p5
  ) else
  if l0 = 13 then (
    (X11_floor l1 l3 m).bind fun p7 =>
    (X11_held p7 m).bind fun p8 =>
    some p8
  ) else
  if l0 = 14 then (
    if ¬ (lcm l3 0) = 0 then (
      (X11_floor l1 l3 m).bind fun p10 =>
      (X11_held (wL (l1 - (wL (l3 * p10)))) m).bind fun p11 =>
      some p11
    ) else (
      some 0
    )
  ) else
  if l0 = 15 then (
    if 0 ≤ (lcm l1 l3) then (
      some l3
    ) else (
      some l1
    )
  ) else
  if (lcm l1 l3) ≤ 0 then (
    some l3
  ) else (
    some l1
  )
-- DewBaronModel.sumOf(III)I
def X11_sumOf_J112 (N : Nat) (r15 : Nat → Int → Int → Int → Int → Mem → Option (Int × Mem)) (l0 : Nat) (l2 : Int) (l3 : Int) (l4 : Int) (l5 : Int) (m : Mem) : Option (Int × Mem) :=
  r15 l0 l2 l3 l4 (wI (l5 + 1)) m
def X11_sumOf_J53 (N : Nat) (r15 : Nat → Int → Int → Int → Int → Mem → Option (Int × Mem)) (l0 : Nat) (l2 : Int) (l3 : Int) (l4 : Int) (l5 : Int) (l6 : Int) (m : Mem) : Option (Int × Mem) :=
  (getR 11 57 l0 m).bind fun t5 =>
  (getR 11 36 l0 m).bind fun t6 =>
  (aldI t6 l5 m).bind fun t7 =>
  (X11_part N l0 l6 t7 m).bind fun p8 =>
  (astL t5 l4 p8 m).bind fun m9 =>
  X11_sumOf_J112 N r15 l0 l2 l3 (wI (l4 + 1)) l5 m9
def X11_sumOf_L15_b (N : Nat) (k118 : Nat → Int → Mem → Option (Int × Mem)) (r15 : Nat → Int → Int → Int → Int → Mem → Option (Int × Mem)) (l0 : Nat) (l2 : Int) (l3 : Int) (l4 : Int) (l5 : Int) (m : Mem) : Option (Int × Mem) :=
  (getI 11 13 l0 m).bind fun t2 =>
  if (wI ((wI (1600 * t2)) + l2)) ≤ l5 then (
    k118 l0 l3 m
  ) else (
    (getR 11 35 l0 m).bind fun t3 =>
    (aldI t3 l5 m).bind fun t4 =>
    if t4 < 10 then (
      X11_sumOf_J53 N r15 l0 l2 l3 l4 l5 t4 m
    ) else (
      if ¬ t4 = 30 then (
        (getR 11 57 l0 m).bind fun t10 =>
        (getR 11 57 l0 m).bind fun t11 =>
        (aldL t11 (wI ((wI (l4 + (-1))) - 1)) m).bind fun t12 =>
        (getR 11 57 l0 m).bind fun t13 =>
        (aldL t13 (wI (l4 + (-1))) m).bind fun t14 =>
        (X11_two t4 t12 t14 m).bind fun p15 =>
        (astL t10 (wI ((wI (l4 + (-1))) - 1)) p15 m).bind fun m16 =>
        X11_sumOf_J112 N r15 l0 l2 l3 (wI (l4 + (-1))) l5 m16
      ) else (
        X11_sumOf_J53 N r15 l0 l2 l3 l4 l5 t4 m
      )
    )
  )
def X11_sumOf_L15 (N : Nat) (k118 : Nat → Int → Mem → Option (Int × Mem)) : Nat → Nat → Int → Int → Int → Int → Mem → Option (Int × Mem)
  | 0 => fun _ _ _ _ _ _ => none
  | f + 1 => X11_sumOf_L15_b N k118 (X11_sumOf_L15 N k118 f)
def X11_sumOf (N : Nat) (l0 : Nat) (l1 : Int) (l2 : Int) (l3 : Int) (m : Mem) : Option (Int × Mem) :=
  if shK l0 = 11 + 10 then (
    (getI 11 13 l0 m).bind fun t1 =>
    X11_sumOf_L15 N (fun z20 z21 m22 =>
        (getR 11 57 z20 m22).bind fun t23 =>
        (aldL t23 0 m22).bind fun t24 =>
        if 0 ≤ (lcm t24 0) then (
          (getR 11 57 z20 m22).bind fun t25 =>
          (aldL t25 0 m22).bind fun t26 =>
          if (lcm t26 z21) ≤ 0 then (
            (getR 11 57 z20 m22).bind fun t27 =>
            (aldL t27 0 m22).bind fun t28 =>
            some ((wI t28), m22)
          ) else (
            some (z21, m22)
          )
        ) else (
          some (0, m22)
        )) N l0 l2 l3 0 (wI ((wI (1600 * t1)) + l1)) m
  ) else none
-- DewBaronModel.dews(II)V
def X11_dews_J165 (N : Nat) (r12 : Nat → Int → Int → Mem → Option Mem) (l0 : Nat) (l2 : Int) (l3 : Int) (l4 : Int) (s0 : Nat) (s1 : Int) (s2 : Int) (m : Mem) : Option Mem :=
  (astI s0 s1 s2 m).bind fun m38 =>
  (getR 11 66 l0 m38).bind fun t39 =>
  (getI 11 61 l0 m38).bind fun t40 =>
  (getR 11 65 l0 m38).bind fun t41 =>
  (aldI t41 l4 m38).bind fun t42 =>
  (astI t39 l4 (wI (t40 - t42)) m38).bind fun m43 =>
  r12 l0 l2 (wI (l3 + 1)) m43
def X11_dews_J99 (N : Nat) (r12 : Nat → Int → Int → Mem → Option Mem) (l0 : Nat) (l2 : Int) (l3 : Int) (l4 : Int) (s0 : Nat) (s1 : Int) (s2 : Int) (m : Mem) : Option Mem :=
  (astI s0 s1 s2 m).bind fun m21 =>
  (getI 11 61 l0 m21).bind fun t22 =>
  (getR 11 64 l0 m21).bind fun t23 =>
  (aldI t23 l4 m21).bind fun t24 =>
  (putI 11 61 l0 (wI (t22 + t24)) m21).bind fun m25 =>
  (getR 11 65 l0 m25).bind fun t26 =>
  (getR 11 30 l0 m25).bind fun t27 =>
  (getI 11 13 l0 m25).bind fun t28 =>
  (aldI t27 t28 m25).bind fun t29 =>
  if ¬ t29 = (-1) then (
    (getR 11 30 l0 m25).bind fun t30 =>
    (getI 11 13 l0 m25).bind fun t31 =>
    (aldI t30 t31 m25).bind fun t32 =>
    (getR 11 31 l0 m25).bind fun t33 =>
    (getI 11 13 l0 m25).bind fun t34 =>
    (aldI t33 t34 m25).bind fun t35 =>
    (getI 11 61 l0 m25).bind fun t36 =>
    (X11_sumOf N l0 t32 t35 t36 m25).bind fun p37 =>
    X11_dews_J165 N r12 l0 l2 l3 l4 t26 l4 p37.1 p37.2
  ) else (
    X11_dews_J165 N r12 l0 l2 l3 l4 t26 l4 0 m25
  )
def X11_dews_L12_b (N : Nat) (r12 : Nat → Int → Int → Mem → Option Mem) (l0 : Nat) (l2 : Int) (l3 : Int) (m : Mem) : Option Mem :=
  (getR 11 23 l0 m).bind fun t3 =>
  (getI 11 13 l0 m).bind fun t4 =>
  (aldI t3 t4 m).bind fun t5 =>
  if t5 ≤ l3 then (
    some m
  ) else (
    (putI 11 59 l0 l3 m).bind fun m6 =>
    (getR 11 66 l0 m6).bind fun t7 =>
    (aldI t7 (wI ((wI ((wI (10 * l2)) + l3)) - 10)) m6).bind fun t8 =>
    (putI 11 61 l0 t8 m6).bind fun m9 =>
    (getR 11 64 l0 m9).bind fun t10 =>
    (getR 11 28 l0 m9).bind fun t11 =>
    (getI 11 13 l0 m9).bind fun t12 =>
    (aldI t11 t12 m9).bind fun t13 =>
    if ¬ t13 = (-1) then (
      (getR 11 28 l0 m9).bind fun t14 =>
      (getI 11 13 l0 m9).bind fun t15 =>
      (aldI t14 t15 m9).bind fun t16 =>
      (getR 11 29 l0 m9).bind fun t17 =>
      (getI 11 13 l0 m9).bind fun t18 =>
      (aldI t17 t18 m9).bind fun t19 =>
      (X11_sumOf N l0 t16 t19 99 m9).bind fun p20 =>
      X11_dews_J99 N r12 l0 l2 l3 (wI ((wI (10 * l2)) + l3)) t10 (wI ((wI (10 * l2)) + l3)) p20.1 p20.2
    ) else (
      X11_dews_J99 N r12 l0 l2 l3 (wI ((wI (10 * l2)) + l3)) t10 (wI ((wI (10 * l2)) + l3)) 0 m9
    )
  )
def X11_dews_L12 (N : Nat) : Nat → Nat → Int → Int → Mem → Option Mem
  | 0 => fun _ _ _ _ => none
  | f + 1 => X11_dews_L12_b N (X11_dews_L12 N f)
def X11_dews (N : Nat) (l0 : Nat) (l1 : Int) (l2 : Int) (m : Mem) : Option Mem :=
  if shK l0 = 11 + 10 then (
    (putI 11 58 l0 l1 m).bind fun m1 =>
    (putI 11 60 l0 l2 m1).bind fun m2 =>
    X11_dews_L12 N N l0 l2 0 m2
  ) else none
-- DewBaronModel.goesNight(I)V
def X11_goesNight_L2_b (N : Nat) (k21 : Nat → Int → Mem → Option Mem) (r2 : Nat → Int → Int → Mem → Option Mem) (l0 : Nat) (l1 : Int) (l2 : Int) (m : Mem) : Option Mem :=
  if 42 ≤ l2 then (
    k21 l0 l1 m
  ) else (
    (getR 11 63 l0 m).bind fun t1 =>
    (astI t1 l2 0 m).bind fun m2 =>
    r2 l0 l1 (wI (l2 + 1)) m2
  )
def X11_goesNight_L2 (N : Nat) (k21 : Nat → Int → Mem → Option Mem) : Nat → Nat → Int → Int → Mem → Option Mem
  | 0 => fun _ _ _ _ => none
  | f + 1 => X11_goesNight_L2_b N k21 (X11_goesNight_L2 N k21 f)
def X11_goesNight_L23_b (N : Nat) (k42 : Nat → Int → Mem → Option Mem) (r23 : Nat → Int → Int → Mem → Option Mem) (l0 : Nat) (l1 : Int) (l2 : Int) (m : Mem) : Option Mem :=
  if 10 ≤ l2 then (
    k42 l0 l1 m
  ) else (
    (getR 11 66 l0 m).bind fun t7 =>
    (astI t7 l2 0 m).bind fun m8 =>
    r23 l0 l1 (wI (l2 + 1)) m8
  )
def X11_goesNight_L23 (N : Nat) (k42 : Nat → Int → Mem → Option Mem) : Nat → Nat → Int → Int → Mem → Option Mem
  | 0 => fun _ _ _ _ => none
  | f + 1 => X11_goesNight_L23_b N k42 (X11_goesNight_L23 N k42 f)
def X11_goesNight_L44_b (N : Nat) (r44 : Nat → Int → Int → Mem → Option Mem) (l0 : Nat) (l1 : Int) (l2 : Int) (m : Mem) : Option Mem :=
  if 12 < l2 then (
    some m
  ) else (
    (X11_colds N l0 l1 l2 m).bind fun p13 =>
    (X11_dews N l0 l1 l2 p13).bind fun p14 =>
    r44 l0 l1 (wI (l2 + 1)) p14
  )
def X11_goesNight_L44 (N : Nat) : Nat → Nat → Int → Int → Mem → Option Mem
  | 0 => fun _ _ _ _ => none
  | f + 1 => X11_goesNight_L44_b N (X11_goesNight_L44 N f)
def X11_goesNight (N : Nat) (l0 : Nat) (l1 : Int) (m : Mem) : Option Mem :=
  if shK l0 = 11 + 10 then (
    X11_goesNight_L2 N (fun z4 z5 m6 =>
        X11_goesNight_L23 N (fun z10 z11 m12 =>
            X11_goesNight_L44 N N z10 z11 1 m12) N z4 z5 0 m6) N l0 l1 0 m
  ) else none
-- DewBaronModel.nightAsTold(I)V
def X11_nightAsTold_L2_b (N : Nat) (k34 : Nat → Int → Mem → Option Mem) (r2 : Nat → Int → Int → Mem → Option Mem) (l0 : Nat) (l1 : Int) (l2 : Int) (m : Mem) : Option Mem :=
  if 12 ≤ l2 then (
    k34 l0 l1 m
  ) else (
    (getR 11 62 l0 m).bind fun t1 =>
    (getR 11 27 l0 m).bind fun t2 =>
    (getI 11 13 l0 m).bind fun t3 =>
    (aldI t2 (wI ((wI (12 * t3)) + l2)) m).bind fun t4 =>
    (astI t1 l2 t4 m).bind fun m5 =>
    r2 l0 l1 (wI (l2 + 1)) m5
  )
def X11_nightAsTold_L2 (N : Nat) (k34 : Nat → Int → Mem → Option Mem) : Nat → Nat → Int → Int → Mem → Option Mem
  | 0 => fun _ _ _ _ => none
  | f + 1 => X11_nightAsTold_L2_b N k34 (X11_nightAsTold_L2 N k34 f)
def X11_nightAsTold (N : Nat) (l0 : Nat) (l1 : Int) (m : Mem) : Option Mem :=
  if shK l0 = 11 + 10 then (
    X11_nightAsTold_L2 N (fun z7 z8 m9 =>
        (X11_goesNight N z7 z8 m9).bind fun p10 =>
        some p10) N l0 l1 0 m
  ) else none
-- DewBaronModel.apart(II)I
def X11_apart_J72 (s0 : Int) (s1 : Int) (m : Mem) : Option Int :=
  some (wI (s0 + s1))
def X11_apart_J59 (l4 : Int) (s0 : Int) (m : Mem) : Option Int :=
  if 0 ≤ l4 then (
    X11_apart_J72 s0 l4 m
  ) else (
    X11_apart_J72 s0 (wI (-l4)) m
  )
def X11_apart (l0 : Nat) (l1 : Int) (l2 : Int) (m : Mem) : Option Int :=
  if shK l0 = 11 + 10 then (
    (getR 11 14 l0 m).bind fun t1 =>
    (getI 11 13 l0 m).bind fun t2 =>
    (aldI t1 t2 m).bind fun t3 =>
    if t3 = 0 then none else
    (getR 11 14 l0 m).bind fun t5 =>
    (getI 11 13 l0 m).bind fun t6 =>
    (aldI t5 t6 m).bind fun t7 =>
    if t7 = 0 then none else
    (getR 11 14 l0 m).bind fun t9 =>
    (getI 11 13 l0 m).bind fun t10 =>
    (aldI t9 t10 m).bind fun t11 =>
    if t11 = 0 then none else
    (getR 11 14 l0 m).bind fun t13 =>
    (getI 11 13 l0 m).bind fun t14 =>
    (aldI t13 t14 m).bind fun t15 =>
    if t15 = 0 then none else
    if 0 ≤ (wI ((wI (Int.tmod l1 t3)) - (wI (Int.tmod l2 t7)))) then (
      X11_apart_J59 (wI ((wI (Int.tdiv l1 t11)) - (wI (Int.tdiv l2 t15)))) (wI ((wI (Int.tmod l1 t3)) - (wI (Int.tmod l2 t7)))) m
    ) else (
      X11_apart_J59 (wI ((wI (Int.tdiv l1 t11)) - (wI (Int.tdiv l2 t15)))) (wI (-(wI ((wI (Int.tmod l1 t3)) - (wI (Int.tmod l2 t7)))))) m
    )
  ) else none
-- DewBaronModel.cisternOf(II)I
def X11_cisternOf_J82 (N : Nat) (r18 : Nat → Int → Int → Int → Option Int) (l0 : Nat) (l3 : Int) (l4 : Int) (l5 : Int) (m : Mem) : Option Int :=
  r18 l0 l3 l4 (wI (l5 + 1))
def X11_cisternOf_J79 (N : Nat) (r18 : Nat → Int → Int → Int → Option Int) (l0 : Nat) (l4 : Int) (l5 : Int) (m : Mem) : Option Int :=
  X11_cisternOf_J82 N r18 l0 l5 l4 l5 m
def X11_cisternOf_L18_b (N : Nat) (m : Mem) (r18 : Nat → Int → Int → Int → Option Int) (l0 : Nat) (l3 : Int) (l4 : Int) (l5 : Int) : Option Int :=
  (getR 11 21 l0 m).bind fun t3 =>
  (getI 11 13 l0 m).bind fun t4 =>
  (aldI t3 t4 m).bind fun t5 =>
  if t5 ≤ l5 then (
    some l3
  ) else (
    if l3 = (-1) then (
      X11_cisternOf_J79 N r18 l0 l4 l5 m
    ) else (
      (getR 11 22 l0 m).bind fun t6 =>
      (getI 11 13 l0 m).bind fun t7 =>
      (aldI t6 (wI ((wI (5 * t7)) + l5)) m).bind fun t8 =>
      (X11_apart l0 l4 t8 m).bind fun p9 =>
      (getR 11 22 l0 m).bind fun t10 =>
      (getI 11 13 l0 m).bind fun t11 =>
      (aldI t10 (wI ((wI (5 * t11)) + l3)) m).bind fun t12 =>
      (X11_apart l0 l4 t12 m).bind fun p13 =>
      if p13 ≤ p9 then (
        X11_cisternOf_J82 N r18 l0 l3 l4 l5 m
      ) else (
        X11_cisternOf_J79 N r18 l0 l4 l5 m
      )
    )
  )
def X11_cisternOf_L18 (N : Nat) (m : Mem) : Nat → Nat → Int → Int → Int → Option Int
  | 0 => fun _ _ _ _ => none
  | f + 1 => X11_cisternOf_L18_b N m (X11_cisternOf_L18 N m f)
def X11_cisternOf (N : Nat) (l0 : Nat) (l1 : Int) (l2 : Int) (m : Mem) : Option Int :=
  if shK l0 = 11 + 10 then (
    (getR 11 52 l0 m).bind fun t1 =>
    (aldI t1 (wI ((wI (10 * l1)) + l2)) m).bind fun t2 =>
    X11_cisternOf_L18 N m N l0 (-1) t2 0
  ) else none
-- DewBaronModel.dawnOf(I)I
def X11_dawnOf (l0 : Nat) (l1 : Int) (m : Mem) : Option Int :=
  if shK l0 = 11 + 10 then (
    (getR 11 66 l0 m).bind fun t1 =>
    (aldI t1 (wI (120 + l1)) m).bind fun t2 =>
    some t2
  ) else none
-- DewBaronModel.comes(II)I
def X11_comes_J41 (N : Nat) (r5 : Nat → Int → Int → Int → Int → Option Int) (l0 : Nat) (l1 : Int) (l2 : Int) (l4 : Int) (s0 : Int) (s1 : Int) (m : Mem) : Option Int :=
  r5 l0 l1 l2 (wI (s0 + s1)) (wI (l4 + 1))
def X11_comes_L5_b (N : Nat) (m : Mem) (r5 : Nat → Int → Int → Int → Int → Option Int) (l0 : Nat) (l1 : Int) (l2 : Int) (l3 : Int) (l4 : Int) : Option Int :=
  (getR 11 23 l0 m).bind fun t1 =>
  (getI 11 13 l0 m).bind fun t2 =>
  (aldI t1 t2 m).bind fun t3 =>
  if t3 ≤ l4 then (
    some l3
  ) else (
    (X11_cisternOf N l0 l1 l4 m).bind fun p4 =>
    if ¬ p4 = l2 then (
      X11_comes_J41 N r5 l0 l1 l2 l4 l3 0 m
    ) else (
      (X11_dawnOf l0 l4 m).bind fun p5 =>
      X11_comes_J41 N r5 l0 l1 l2 l4 l3 p5 m
    )
  )
def X11_comes_L5 (N : Nat) (m : Mem) : Nat → Nat → Int → Int → Int → Int → Option Int
  | 0 => fun _ _ _ _ _ => none
  | f + 1 => X11_comes_L5_b N m (X11_comes_L5 N m f)
def X11_comes (N : Nat) (l0 : Nat) (l1 : Int) (l2 : Int) (m : Mem) : Option Int :=
  if shK l0 = 11 + 10 then (
    X11_comes_L5 N m N l0 l1 l2 0 0
  ) else none
-- DewBaronModel.compares(II)V
def X11_compares_J68 (N : Nat) (r18 : Nat → Int → Int → Int → Int → Int → Int → Mem → Option Mem) (l0 : Nat) (l1 : Int) (l2 : Int) (l3 : Int) (l5 : Int) (l6 : Int) (l7 : Int) (s0 : Int) (m : Mem) : Option Mem :=
  r18 l0 l1 l2 l3 s0 (wI (l5 + l7)) (wI (l6 + 1)) m
def X11_compares_J53 (N : Nat) (r18 : Nat → Int → Int → Int → Int → Int → Int → Mem → Option Mem) (l0 : Nat) (l1 : Int) (l2 : Int) (l4 : Int) (l5 : Int) (l6 : Int) (l7 : Int) (s0 : Int) (m : Mem) : Option Mem :=
  if l7 ≤ l4 then (
    X11_compares_J68 N r18 l0 l1 l2 s0 l5 l6 l7 l4 m
  ) else (
    X11_compares_J68 N r18 l0 l1 l2 s0 l5 l6 l7 l7 m
  )
def X11_compares_L18_b (N : Nat) (k83 : Nat → Int → Int → Int → Int → Int → Mem → Option Mem) (r18 : Nat → Int → Int → Int → Int → Int → Int → Mem → Option Mem) (l0 : Nat) (l1 : Int) (l2 : Int) (l3 : Int) (l4 : Int) (l5 : Int) (l6 : Int) (m : Mem) : Option Mem :=
  (getR 11 21 l0 m).bind fun t2 =>
  (getI 11 13 l0 m).bind fun t3 =>
  (aldI t2 t3 m).bind fun t4 =>
  if t4 ≤ l6 then (
    k83 l0 l1 l2 l3 l4 l5 m
  ) else (
    (X11_comes N l0 1 l6 m).bind fun p5 =>
    if l3 ≤ p5 then (
      X11_compares_J53 N r18 l0 l1 l2 l4 l5 l6 p5 l3 m
    ) else (
      X11_compares_J53 N r18 l0 l1 l2 l4 l5 l6 p5 p5 m
    )
  )
def X11_compares_L18 (N : Nat) (k83 : Nat → Int → Int → Int → Int → Int → Mem → Option Mem) : Nat → Nat → Int → Int → Int → Int → Int → Int → Mem → Option Mem
  | 0 => fun _ _ _ _ _ _ _ _ => none
  | f + 1 => X11_compares_L18_b N k83 (X11_compares_L18 N k83 f)
def X11_compares_J117 (N : Nat) (l0 : Nat) (l1 : Int) (l2 : Int) (l5 : Int) (l6 : Int) (m : Mem) : Option Mem :=
  (putI 11 69 l0 l6 m).bind fun m18 =>
  (putI 11 70 l0 l5 m18).bind fun m19 =>
  (getR 11 71 l0 m19).bind fun t20 =>
  (astI t20 0 l1 m19).bind fun m21 =>
  (getR 11 71 l0 m21).bind fun t22 =>
  (astI t22 1 l2 m21).bind fun m23 =>
  some m23
def X11_compares (N : Nat) (l0 : Nat) (l1 : Int) (l2 : Int) (m : Mem) : Option Mem :=
  if shK l0 = 11 + 10 then (
    (X11_nightAsTold N l0 1 m).bind fun p1 =>
    X11_compares_L18 N (fun z9 z10 z11 z12 z13 z14 m15 =>
        (getI 11 69 z9 m15).bind fun t16 =>
        if t16 < (wI (z13 - z12)) then (
          some m15
        ) else (
          (getI 11 69 z9 m15).bind fun t17 =>
          if ¬ (wI (z13 - z12)) = t17 then (
            X11_compares_J117 N z9 z10 z11 z14 (wI (z13 - z12)) m15
          ) else (
            (getI 11 70 z9 m15).bind fun t24 =>
            if t24 < z14 then (
              X11_compares_J117 N z9 z10 z11 z14 (wI (z13 - z12)) m15
            ) else (
              some m15
            )
          )
        )) N l0 l1 l2 1000000 0 0 0 p1
  ) else none
-- DewBaronModel.alike(II)I
def X11_alike_J194 (N : Nat) (r125 : Nat → Int → Int → Int → Int → Int → Int → Mem → Option (Int × Mem)) (l0 : Nat) (l1 : Int) (l2 : Int) (l3 : Int) (l4 : Int) (l5 : Int) (l6 : Int) (m : Mem) : Option (Int × Mem) :=
  r125 l0 l1 l2 l3 l4 l5 (wI (l6 + 1)) m
def X11_alike_J186 (N : Nat) (r125 : Nat → Int → Int → Int → Int → Int → Int → Mem → Option (Int × Mem)) (l0 : Nat) (l1 : Int) (l2 : Int) (l3 : Int) (l4 : Int) (l5 : Int) (l6 : Int) (m : Mem) : Option (Int × Mem) :=
  (X11_compares N l0 l5 l6 m).bind fun p16 =>
  X11_alike_J194 N r125 l0 l1 l2 l3 l4 l5 l6 p16
def X11_alike_J169 (N : Nat) (r125 : Nat → Int → Int → Int → Int → Int → Int → Mem → Option (Int × Mem)) (l0 : Nat) (l1 : Int) (l2 : Int) (l3 : Int) (l4 : Int) (l5 : Int) (l6 : Int) (m : Mem) : Option (Int × Mem) :=
  if ¬ l1 = 2 then (
    X11_alike_J186 N r125 l0 l1 l2 l3 l4 l5 l6 m
  ) else (
    (getR 11 52 l0 m).bind fun t17 =>
    (astI t17 (wI (10 + l4)) l6 m).bind fun m18 =>
    X11_alike_J186 N r125 l0 l1 l2 l3 l4 l5 l6 m18
  )
def X11_alike_J140 (N : Nat) (r125 : Nat → Int → Int → Int → Int → Int → Int → Mem → Option (Int × Mem)) (k200 : Nat → Int → Int → Int → Int → Int → Mem → Option (Int × Mem)) (l0 : Nat) (l1 : Int) (l2 : Int) (l3 : Int) (l4 : Int) (l5 : Int) (l6 : Int) (s0 : Int) (s1 : Int) (m : Mem) : Option (Int × Mem) :=
  if s1 ≤ s0 then (
    k200 l0 l1 l2 l3 l4 l5 m
  ) else (
    if ¬ l1 = 2 then (
      X11_alike_J169 N r125 l0 l1 l2 l3 l4 l5 l6 m
    ) else (
      if l6 = l5 then (
        X11_alike_J194 N r125 l0 l1 l2 l3 l4 l5 l6 m
      ) else (
        (X11_canHang N l0 l4 l6 m).bind fun p20 =>
        if ¬ p20 = 0 then (
          X11_alike_J169 N r125 l0 l1 l2 l3 l4 l5 l6 m
        ) else (
          X11_alike_J194 N r125 l0 l1 l2 l3 l4 l5 l6 m
        )
      )
    )
  )
def X11_alike_L125_b (N : Nat) (k200 : Nat → Int → Int → Int → Int → Int → Mem → Option (Int × Mem)) (r125 : Nat → Int → Int → Int → Int → Int → Int → Mem → Option (Int × Mem)) (l0 : Nat) (l1 : Int) (l2 : Int) (l3 : Int) (l4 : Int) (l5 : Int) (l6 : Int) (m : Mem) : Option (Int × Mem) :=
  if ¬ l1 = 1 then (
    (X11_cells l0 m).bind fun p15 =>
    X11_alike_J140 N r125 k200 l0 l1 l2 l3 l4 l5 l6 l6 p15 m
  ) else (
    X11_alike_J140 N r125 k200 l0 l1 l2 l3 l4 l5 l6 l6 1 m
  )
def X11_alike_L125 (N : Nat) (k200 : Nat → Int → Int → Int → Int → Int → Mem → Option (Int × Mem)) : Nat → Nat → Int → Int → Int → Int → Int → Int → Mem → Option (Int × Mem)
  | 0 => fun _ _ _ _ _ _ _ _ => none
  | f + 1 => X11_alike_L125_b N k200 (X11_alike_L125 N k200 f)
def X11_alike_J200 (N : Nat) (r89 : Nat → Int → Int → Int → Int → Int → Mem → Option (Int × Mem)) (l0 : Nat) (l1 : Int) (l2 : Int) (l3 : Int) (l4 : Int) (l5 : Int) (m : Mem) : Option (Int × Mem) :=
  r89 l0 l1 l2 l3 l4 (wI (l5 + 1)) m
def X11_alike_L89_b (N : Nat) (k206 : Nat → Int → Mem → Option (Int × Mem)) (r89 : Nat → Int → Int → Int → Int → Int → Mem → Option (Int × Mem)) (l0 : Nat) (l1 : Int) (l2 : Int) (l3 : Int) (l4 : Int) (l5 : Int) (m : Mem) : Option (Int × Mem) :=
  (X11_cells l0 m).bind fun p11 =>
  if p11 ≤ l5 then (
    k206 l0 l2 m
  ) else (
    (X11_canHang N l0 l3 l5 m).bind fun p12 =>
    if ¬ p12 = 0 then (
      (getR 11 52 l0 m).bind fun t13 =>
      (astI t13 (wI (10 + l3)) l5 m).bind fun m14 =>
      X11_alike_L125 N (fun z26 z27 z28 z29 z30 z31 m32 =>
          X11_alike_J200 N r89 z26 z27 z28 z29 z30 z31 m32) N l0 l1 l2 l3 l4 l5 0 m14
    ) else (
      X11_alike_J200 N r89 l0 l1 l2 l3 l4 l5 m
    )
  )
def X11_alike_L89 (N : Nat) (k206 : Nat → Int → Mem → Option (Int × Mem)) : Nat → Nat → Int → Int → Int → Int → Int → Mem → Option (Int × Mem)
  | 0 => fun _ _ _ _ _ _ _ => none
  | f + 1 => X11_alike_L89_b N k206 (X11_alike_L89 N k206 f)
def X11_alike_J53 (N : Nat) (l0 : Nat) (l1 : Int) (l2 : Int) (m : Mem) : Option (Int × Mem) :=
  (X11_cloth N l0 0 m).bind fun p6 =>
  (X11_cloth N l0 (wI (l1 - 1)) m).bind fun p7 =>
  (X11_copies N l0 1 0 m).bind fun p8 =>
  (putI 11 69 l0 1000000 p8).bind fun m9 =>
  (putI 11 70 l0 (-1) m9).bind fun m10 =>
  X11_alike_L89 N (fun z35 z36 m37 =>
      if ¬ z36 = (-1) then (
        if ¬ z36 = 20 then (
          (getR 11 71 z35 m37).bind fun t38 =>
          (aldI t38 z36 m37).bind fun t39 =>
          some (t39, m37)
        ) else (
          (getI 11 70 z35 m37).bind fun t40 =>
          some (t40, m37)
        )
      ) else (
        (getI 11 69 z35 m37).bind fun t42 =>
        some (t42, m37)
      )) N l0 l1 l2 p6 p7 0 m10
def X11_alike (N : Nat) (l0 : Nat) (l1 : Int) (l2 : Int) (m : Mem) : Option (Int × Mem) :=
  if shK l0 = 11 + 10 then (
    (X11_is l1 1 2 m).bind fun p1 =>
    if p1 = 0 then (
      some ((-1), m)
    ) else (
      (getR 11 21 l0 m).bind fun t2 =>
      (getI 11 13 l0 m).bind fun t3 =>
      (aldI t2 t3 m).bind fun t4 =>
      if t4 = 0 then (
        some ((-1), m)
      ) else (
        (X11_cloths N l0 m).bind fun p5 =>
        if p5 < l1 then (
          some ((-1), m)
        ) else (
          if l2 = (-1) then (
            X11_alike_J53 N l0 l1 l2 m
          ) else (
            if l2 = 20 then (
              X11_alike_J53 N l0 l1 l2 m
            ) else (
              (X11_is l2 0 (wI (l1 - 1)) m).bind fun p44 =>
              if ¬ p44 = 0 then (
                X11_alike_J53 N l0 l1 l2 m
              ) else (
                some ((-1), m)
              )
            )
          )
        )
      )
    )
  ) else none
-- DewBaronModel.begin()V
def X11_begin_L19_b (N : Nat) (k51 : Nat → Mem → Option Mem) (r19 : Nat → Int → Mem → Option Mem) (l0 : Nat) (l1 : Int) (m : Mem) : Option Mem :=
  if 42 ≤ l1 then (
    k51 l0 m
  ) else (
    (getR 11 51 l0 m).bind fun t5 =>
    (getR 11 17 l0 m).bind fun t6 =>
    (getI 11 13 l0 m).bind fun t7 =>
    (aldI t6 (wI ((wI (42 * t7)) + l1)) m).bind fun t8 =>
    (astI t5 l1 t8 m).bind fun m9 =>
    r19 l0 (wI (l1 + 1)) m9
  )
def X11_begin_L19 (N : Nat) (k51 : Nat → Mem → Option Mem) : Nat → Nat → Int → Mem → Option Mem
  | 0 => fun _ _ _ => none
  | f + 1 => X11_begin_L19_b N k51 (X11_begin_L19 N k51 f)
def X11_begin_L53_b (N : Nat) (k85 : Nat → Mem → Option Mem) (r53 : Nat → Int → Mem → Option Mem) (l0 : Nat) (l1 : Int) (m : Mem) : Option Mem :=
  if 10 ≤ l1 then (
    k85 l0 m
  ) else (
    (getR 11 52 l0 m).bind fun t13 =>
    (getR 11 26 l0 m).bind fun t14 =>
    (getI 11 13 l0 m).bind fun t15 =>
    (aldI t14 (wI ((wI (10 * t15)) + l1)) m).bind fun t16 =>
    (astI t13 l1 t16 m).bind fun m17 =>
    r53 l0 (wI (l1 + 1)) m17
  )
def X11_begin_L53 (N : Nat) (k85 : Nat → Mem → Option Mem) : Nat → Nat → Int → Mem → Option Mem
  | 0 => fun _ _ _ => none
  | f + 1 => X11_begin_L53_b N k85 (X11_begin_L53 N k85 f)
def X11_begin_L87_b (N : Nat) (r87 : Nat → Int → Mem → Option Mem) (l0 : Nat) (l1 : Int) (m : Mem) : Option Mem :=
  if 5 ≤ l1 then (
    some m
  ) else (
    (getR 11 53 l0 m).bind fun t21 =>
    (astI t21 l1 0 m).bind fun m22 =>
    r87 l0 (wI (l1 + 1)) m22
  )
def X11_begin_L87 (N : Nat) : Nat → Nat → Int → Mem → Option Mem
  | 0 => fun _ _ _ => none
  | f + 1 => X11_begin_L87_b N (X11_begin_L87 N f)
def X11_begin (N : Nat) (l0 : Nat) (m : Mem) : Option Mem :=
  if shK l0 = 11 + 10 then (
    (getR 11 50 l0 m).bind fun t1 =>
    (astI t1 0 0 m).bind fun m2 =>
    (putI 11 55 l0 0 m2).bind fun m3 =>
    (putI 11 72 l0 0 m3).bind fun m4 =>
    X11_begin_L19 N (fun z11 m12 =>
        X11_begin_L53 N (fun z19 m20 =>
            X11_begin_L87 N N z19 0 m20) N z11 0 m12) N l0 0 m4
  ) else none
-- DewBaronModel.isCistern(I)Z
def X11_isCistern (l0 : Nat) (l1 : Int) (m : Mem) : Option Int :=
  if shK l0 = 11 + 10 then (
    if l1 < 0 then (
      retZ 0
    ) else (
      (getR 11 21 l0 m).bind fun t1 =>
      (getI 11 13 l0 m).bind fun t2 =>
      (aldI t1 t2 m).bind fun t3 =>
      if t3 ≤ l1 then (
        retZ 0
      ) else (
        retZ 1
      )
    )
  ) else none
-- DewBaronModel.without(II)I
def X11_without (N : Nat) (l0 : Nat) (l1 : Int) (l2 : Int) (m : Mem) : Option (Int × Mem) :=
  if shK l0 = 11 + 10 then (
    (X11_nightAsTold N l0 0 m).bind fun p1 =>
    (X11_comes N l0 0 l2 p1).bind fun p2 =>
    (X11_copies N l0 1 0 p1).bind fun p3 =>
    (getR 11 51 l0 p3).bind fun t4 =>
    (astI t4 (wI (42 + l1)) 0 p3).bind fun m5 =>
    (X11_nightAsTold N l0 1 m5).bind fun p6 =>
    (X11_comes N l0 1 l2 p6).bind fun p7 =>
    some ((wI (p7 - p2)), p6)
  ) else none
-- DewBaronModel.best(I)I
def X11_best_J64 (N : Nat) (r17 : Nat → Int → Int → Int → Int → Mem → Option (Int × Mem)) (l0 : Nat) (l1 : Int) (l2 : Int) (l3 : Int) (l4 : Int) (m : Mem) : Option (Int × Mem) :=
  r17 l0 l1 l2 l3 (wI (l4 + 1)) m
def X11_best_J47 (N : Nat) (r17 : Nat → Int → Int → Int → Int → Mem → Option (Int × Mem)) (l0 : Nat) (l1 : Int) (l2 : Int) (l3 : Int) (l4 : Int) (s0 : Int) (m : Mem) : Option (Int × Mem) :=
  if l3 < s0 then (
    X11_best_J64 N r17 l0 l1 l4 s0 l4 m
  ) else (
    X11_best_J64 N r17 l0 l1 l2 l3 l4 m
  )
def X11_best_L17_b (N : Nat) (r17 : Nat → Int → Int → Int → Int → Mem → Option (Int × Mem)) (l0 : Nat) (l1 : Int) (l2 : Int) (l3 : Int) (l4 : Int) (m : Mem) : Option (Int × Mem) :=
  (X11_cells l0 m).bind fun p2 =>
  if p2 ≤ l4 then (
    some (l2, m)
  ) else (
    (X11_isWall l0 0 l4 m).bind fun p3 =>
    if p3 = 0 then (
      X11_best_J47 N r17 l0 l1 l2 l3 l4 0 m
    ) else (
      (X11_without N l0 l4 l1 m).bind fun p5 =>
      X11_best_J47 N r17 l0 l1 l2 l3 l4 p5.1 p5.2
    )
  )
def X11_best_L17 (N : Nat) : Nat → Nat → Int → Int → Int → Int → Mem → Option (Int × Mem)
  | 0 => fun _ _ _ _ _ _ => none
  | f + 1 => X11_best_L17_b N (X11_best_L17 N f)
def X11_best (N : Nat) (l0 : Nat) (l1 : Int) (m : Mem) : Option (Int × Mem) :=
  if shK l0 = 11 + 10 then (
    (X11_isCistern l0 l1 m).bind fun p1 =>
    if ¬ p1 = 0 then (
      X11_best_L17 N N l0 l1 (-1) 0 0 m
    ) else (
      some ((-1), m)
    )
  ) else none
-- DewBaronModel.bits(I)I
def X11_bits_L4_b (N : Nat) (m : Mem) (r4 : Int → Int → Option Int) (l1 : Int) (l2 : Int) : Option Int :=
  if l2 = 0 then (
    some l1
  ) else (
    r4 (wI (l1 + 1)) (iand l2 (wI (l2 - 1)))
  )
def X11_bits_L4 (N : Nat) (m : Mem) : Nat → Int → Int → Option Int
  | 0 => fun _ _ => none
  | f + 1 => X11_bits_L4_b N m (X11_bits_L4 N m f)
def X11_bits (N : Nat) (l0 : Int) (m : Mem) : Option Int :=
  X11_bits_L4 N m N 0 l0
-- DewBaronModel.blame(II)V
def X11_blame (l0 : Nat) (l1 : Int) (l2 : Int) (m : Mem) : Option Mem :=
  if shK l0 = 11 + 10 then (
    (getI 11 8 l0 m).bind fun t1 =>
    if t1 ≤ 0 then (
      (putI 11 8 l0 l1 m).bind fun m2 =>
      (putI 11 9 l0 l2 m2).bind fun m3 =>
      some m3
    ) else (
      some m
    )
  ) else none
-- DewBaronModel.cameIn(I)I
def X11_cameIn_L4_b (N : Nat) (m : Mem) (r4 : Nat → Int → Int → Int → Option Int) (l0 : Nat) (l1 : Int) (l2 : Int) (l3 : Int) : Option Int :=
  (getR 11 23 l0 m).bind fun t1 =>
  (getI 11 13 l0 m).bind fun t2 =>
  (aldI t1 t2 m).bind fun t3 =>
  if t3 ≤ l3 then (
    some l2
  ) else (
    (getR 11 64 l0 m).bind fun t4 =>
    (aldI t4 (wI ((wI (10 * l1)) + l3)) m).bind fun t5 =>
    r4 l0 l1 (wI (l2 + t5)) (wI (l3 + 1))
  )
def X11_cameIn_L4 (N : Nat) (m : Mem) : Nat → Nat → Int → Int → Int → Option Int
  | 0 => fun _ _ _ _ => none
  | f + 1 => X11_cameIn_L4_b N m (X11_cameIn_L4 N m f)
def X11_cameIn (N : Nat) (l0 : Nat) (l1 : Int) (m : Mem) : Option Int :=
  if shK l0 = 11 + 10 then (
    X11_cameIn_L4 N m N l0 l1 0 0
  ) else none
-- DewBaronModel.isCell(I)Z
def X11_isCell (l0 : Nat) (l1 : Int) (m : Mem) : Option Int :=
  if shK l0 = 11 + 10 then (
    if l1 < 0 then (
      retZ 0
    ) else (
      (X11_cells l0 m).bind fun p1 =>
      if p1 ≤ l1 then (
        retZ 0
      ) else (
        retZ 1
      )
    )
  ) else none
-- DewBaronModel.canBe()Z
def X11_canBe_J38 (N : Nat) (r2 : Nat → Int → Option Int) (l0 : Nat) (l1 : Int) (m : Mem) : Option Int :=
  r2 l0 (wI (l1 + 1))
def X11_canBe_L2_b (N : Nat) (k44 : Nat → Option Int) (m : Mem) (r2 : Nat → Int → Option Int) (l0 : Nat) (l1 : Int) : Option Int :=
  (X11_cells l0 m).bind fun p1 =>
  if p1 ≤ l1 then (
    k44 l0
  ) else (
    (X11_isWall l0 1 l1 m).bind fun p2 =>
    if p2 = 0 then (
      X11_canBe_J38 N r2 l0 l1 m
    ) else (
      (X11_isHouse l0 l1 m).bind fun p3 =>
      if ¬ p3 = 0 then (
        retZ 0
      ) else (
        (X11_cisternAt N l0 l1 m).bind fun p4 =>
        if p4 = (-1) then (
          X11_canBe_J38 N r2 l0 l1 m
        ) else (
          retZ 0
        )
      )
    )
  )
def X11_canBe_L2 (N : Nat) (k44 : Nat → Option Int) (m : Mem) : Nat → Nat → Int → Option Int
  | 0 => fun _ _ => none
  | f + 1 => X11_canBe_L2_b N k44 m (X11_canBe_L2 N k44 m f)
def X11_canBe_L46_b (N : Nat) (m : Mem) (r46 : Nat → Int → Option Int) (l0 : Nat) (l1 : Int) : Option Int :=
  (getR 11 23 l0 m).bind fun t10 =>
  (getI 11 13 l0 m).bind fun t11 =>
  (aldI t10 t11 m).bind fun t12 =>
  if t12 ≤ l1 then (
    retZ 1
  ) else (
    (getR 11 52 l0 m).bind fun t13 =>
    (aldI t13 (wI (10 + l1)) m).bind fun t14 =>
    (X11_isCell l0 t14 m).bind fun p15 =>
    if p15 = 0 then (
      retZ 0
    ) else (
      (X11_isWall l0 1 t14 m).bind fun p16 =>
      if ¬ p16 = 0 then (
        retZ 0
      ) else (
        (X11_isHouse l0 t14 m).bind fun p17 =>
        if ¬ p17 = 0 then (
          retZ 0
        ) else (
          (X11_cisternAt N l0 t14 m).bind fun p18 =>
          if ¬ p18 = (-1) then (
            retZ 0
          ) else (
            (X11_thingAt N l0 1 t14 m).bind fun p19 =>
            if p19 = l1 then (
              r46 l0 (wI (l1 + 1))
            ) else (
              retZ 0
            )
          )
        )
      )
    )
  )
def X11_canBe_L46 (N : Nat) (m : Mem) : Nat → Nat → Int → Option Int
  | 0 => fun _ _ => none
  | f + 1 => X11_canBe_L46_b N m (X11_canBe_L46 N m f)
def X11_canBe (N : Nat) (l0 : Nat) (m : Mem) : Option Int :=
  if shK l0 = 11 + 10 then (
    X11_canBe_L2 N (fun z9 =>
        X11_canBe_L46 N m N z9 0) m N l0 0
  ) else none
-- DewBaronModel.isEdge(I)Z
def X11_isEdge_J62 (m : Mem) : Option Int :=
  retZ 1
def X11_isEdge (l0 : Nat) (l1 : Int) (m : Mem) : Option Int :=
  if shK l0 = 11 + 10 then (
    (getR 11 14 l0 m).bind fun t1 =>
    (getI 11 13 l0 m).bind fun t2 =>
    (aldI t1 t2 m).bind fun t3 =>
    if t3 = 0 then none else
    (getR 11 14 l0 m).bind fun t5 =>
    (getI 11 13 l0 m).bind fun t6 =>
    (aldI t5 t6 m).bind fun t7 =>
    if t7 = 0 then none else
    if (wI (Int.tmod l1 t3)) = 0 then (
      X11_isEdge_J62 m
    ) else (
      if (wI (Int.tdiv l1 t7)) = 0 then (
        X11_isEdge_J62 m
      ) else (
        (getR 11 14 l0 m).bind fun t9 =>
        (getI 11 13 l0 m).bind fun t10 =>
        (aldI t9 t10 m).bind fun t11 =>
        if (wI (Int.tmod l1 t3)) = (wI (t11 - 1)) then (
          X11_isEdge_J62 m
        ) else (
          (getR 11 15 l0 m).bind fun t12 =>
          (getI 11 13 l0 m).bind fun t13 =>
          (aldI t12 t13 m).bind fun t14 =>
          if ¬ (wI (Int.tdiv l1 t7)) = (wI (t14 - 1)) then (
            retZ 0
          ) else (
            X11_isEdge_J62 m
          )
        )
      )
    )
  ) else none
-- DewBaronModel.canBegin(I)Z
def X11_canBegin (l0 : Nat) (l1 : Int) (m : Mem) : Option Int :=
  if shK l0 = 11 + 10 then (
    (getR 11 74 l0 m).bind fun t1 =>
    (aldI t1 l1 m).bind fun t2 =>
    (X11_isEdge l0 t2 m).bind fun p3 =>
    if p3 = 0 then (
      retZ 0
    ) else (
      (getR 11 74 l0 m).bind fun t4 =>
      (aldI t4 l1 m).bind fun t5 =>
      (X11_isWall l0 0 t5 m).bind fun p6 =>
      if ¬ p6 = 0 then (
        retZ 0
      ) else (
        (getR 11 75 l0 m).bind fun t7 =>
        (aldI t7 (wI ((wI (10 * (ishl 1 l1))) + l1)) m).bind fun t8 =>
        if t8 ≤ 0 then (
          retZ 0
        ) else (
          retZ 1
        )
      )
    )
  ) else none
-- DewBaronModel.sunOf(I)I
def X11_sunOf_J59 (N : Nat) (r16 : Nat → Int → Int → Int → Option Int) (l0 : Nat) (l1 : Int) (l3 : Int) (s0 : Int) (s1 : Int) (m : Mem) : Option Int :=
  r16 l0 l1 (wI (s0 + s1)) (wI (l3 + 1))
def X11_sunOf_L16_b (N : Nat) (m : Mem) (r16 : Nat → Int → Int → Int → Option Int) (l0 : Nat) (l1 : Int) (l2 : Int) (l3 : Int) : Option Int :=
  (getR 11 14 l0 m).bind fun t5 =>
  (getI 11 13 l0 m).bind fun t6 =>
  (aldI t5 t6 m).bind fun t7 =>
  if t7 ≤ l3 then (
    some l2
  ) else (
    (getR 11 14 l0 m).bind fun t8 =>
    (getI 11 13 l0 m).bind fun t9 =>
    (aldI t8 t9 m).bind fun t10 =>
    if t10 = 0 then none else
    (X11_isWall l0 0 (wI ((wI (l1 - (wI (Int.tmod l1 t10)))) + l3)) m).bind fun p12 =>
    if p12 = 0 then (
      X11_sunOf_J59 N r16 l0 l1 l3 l2 0 m
    ) else (
      X11_sunOf_J59 N r16 l0 l1 l3 l2 10 m
    )
  )
def X11_sunOf_L16 (N : Nat) (m : Mem) : Nat → Nat → Int → Int → Int → Option Int
  | 0 => fun _ _ _ _ => none
  | f + 1 => X11_sunOf_L16_b N m (X11_sunOf_L16 N m f)
def X11_sunOf (N : Nat) (l0 : Nat) (l1 : Int) (m : Mem) : Option Int :=
  if shK l0 = 11 + 10 then (
    (getR 11 14 l0 m).bind fun t1 =>
    (getI 11 13 l0 m).bind fun t2 =>
    (aldI t1 t2 m).bind fun t3 =>
    if t3 = 0 then none else
    X11_sunOf_L16 N m N l0 l1 0 (wI ((wI (Int.tmod l1 t3)) + 1))
  ) else none
-- DewBaronModel.cell(II)I
def X11_cell (N : Nat) (l0 : Nat) (l1 : Int) (l2 : Int) (m : Mem) : Option Int :=
  if shK l0 = 11 + 10 then (
    (X11_isCell l0 l1 m).bind fun p1 =>
    if ¬ p1 = 0 then (
      if l2 = 0 then (
        (X11_heightOf l0 l1 m).bind fun p2 =>
        some p2
      ) else
      if l2 = 1 then (
        (X11_whatIn N l0 l1 m).bind fun p4 =>
        some p4
      ) else
      if l2 = 2 then (
        (X11_opennessOf N l0 0 l1 m).bind fun p6 =>
        some p6
      ) else
      if l2 = 3 then (
        (X11_nearHouses N l0 l1 m).bind fun p8 =>
        some p8
      ) else
      if l2 = 4 then (
        (X11_sunOf N l0 l1 m).bind fun p10 =>
        some p10
      ) else
      some (-1)
    ) else (
      some (-1)
    )
  ) else none
-- DewBaronModel.lex()V
def X11_lex (l0 : Nat) (m : Mem) : Option Mem :=
  if shK l0 = 11 + 10 then (
    (getI 11 12 l0 m).bind fun t1 =>
    if t1 = (-1) then (
      some m
    ) else (
      (getI 11 12 l0 m).bind fun t2 =>
      (X11_blame l0 1 t2 m).bind fun p3 =>
      some p3
    )
  ) else none
-- DewBaronModel.isWord(J)Z
def X11_isWord (l0 : Nat) (l1 : Int) (m : Mem) : Option Int :=
  if shK l0 = 11 + 10 then (
    (getI 11 3 l0 m).bind fun t1 =>
    if ¬ t1 = 1 then (
      retZ 0
    ) else (
      (getI 11 7 l0 m).bind fun t2 =>
      if ¬ (lcm t2 l1) = 0 then (
        retZ 0
      ) else (
        retZ 1
      )
    )
  ) else none
-- DewBaronModel.must(J)V
def X11_must__J29 (N : Nat) (l0 : Nat) (m : Mem) : Option Mem :=
  (getI 11 8 l0 m).bind fun t4 =>
  if ¬ t4 = 0 then (
    some m
  ) else (
    (X11_ahead N l0 m).bind fun p5 =>
    some p5
  )
def X11_must_ (N : Nat) (l0 : Nat) (l1 : Int) (m : Mem) : Option Mem :=
  if shK l0 = 11 + 10 then (
    (X11_lex l0 m).bind fun p1 =>
    (getI 11 8 l0 p1).bind fun t2 =>
    if t2 ≤ 0 then (
      (X11_isWord l0 l1 p1).bind fun p3 =>
      if ¬ p3 = 0 then (
        X11_must__J29 N l0 p1
      ) else (
        (getI 11 4 l0 p1).bind fun t7 =>
        (X11_blame l0 1 t7 p1).bind fun p8 =>
        X11_must__J29 N l0 p8
      )
    ) else (
      some p1
    )
  ) else none
-- DewBaronModel.looked(II)I
def X11_looked_J58 (l0 : Nat) (m : Mem) : Option (Int × Mem) :=
  (getI 11 8 l0 m).bind fun t5 =>
  if t5 ≤ 0 then (
    (getI 11 6 l0 m).bind fun t6 =>
    some (t6, m)
  ) else (
    some (0, m)
  )
def X11_looked_J30 (l0 : Nat) (l1 : Int) (l2 : Int) (m : Mem) : Option (Int × Mem) :=
  (getI 11 8 l0 m).bind fun t4 =>
  if ¬ t4 = 0 then (
    X11_looked_J58 l0 m
  ) else (
    (getI 11 6 l0 m).bind fun t8 =>
    (X11_is t8 l1 l2 m).bind fun p9 =>
    if ¬ p9 = 0 then (
      X11_looked_J58 l0 m
    ) else (
      (getI 11 4 l0 m).bind fun t10 =>
      (X11_blame l0 4 t10 m).bind fun p11 =>
      X11_looked_J58 l0 p11
    )
  )
def X11_looked (l0 : Nat) (l1 : Int) (l2 : Int) (m : Mem) : Option (Int × Mem) :=
  if shK l0 = 11 + 10 then (
    (X11_lex l0 m).bind fun p1 =>
    (getI 11 8 l0 p1).bind fun t2 =>
    if t2 ≤ 0 then (
      (getI 11 3 l0 p1).bind fun t3 =>
      if t3 = 2 then (
        X11_looked_J30 l0 l1 l2 p1
      ) else (
        (getI 11 4 l0 p1).bind fun t14 =>
        (X11_blame l0 1 t14 p1).bind fun p15 =>
        X11_looked_J30 l0 l1 l2 p15
      )
    ) else (
      some (0, p1)
    )
  ) else none
-- DewBaronModel.number(II)I
def X11_number (N : Nat) (l0 : Nat) (l1 : Int) (l2 : Int) (m : Mem) : Option (Int × Mem) :=
  if shK l0 = 11 + 10 then (
    (X11_looked l0 l1 l2 m).bind fun p1 =>
    (getI 11 8 l0 p1.2).bind fun t2 =>
    if ¬ t2 = 0 then (
      some (p1.1, p1.2)
    ) else (
      (X11_ahead N l0 p1.2).bind fun p3 =>
      some (p1.1, p3)
    )
  ) else none
-- DewBaronModel.isFreeTold(I)Z
def X11_isFreeTold_L40_b (N : Nat) (k78 : Nat → Int → Option Int) (m : Mem) (r40 : Nat → Int → Int → Option Int) (l0 : Nat) (l1 : Int) (l2 : Int) : Option Int :=
  (getR 11 21 l0 m).bind fun t7 =>
  (getI 11 40 l0 m).bind fun t8 =>
  (aldI t7 t8 m).bind fun t9 =>
  if t9 ≤ l2 then (
    k78 l0 l1
  ) else (
    (getR 11 22 l0 m).bind fun t10 =>
    (getI 11 40 l0 m).bind fun t11 =>
    (aldI t10 (wI ((wI (5 * t11)) + l2)) m).bind fun t12 =>
    if ¬ t12 = l1 then (
      r40 l0 l1 (wI (l2 + 1))
    ) else (
      retZ 0
    )
  )
def X11_isFreeTold_L40 (N : Nat) (k78 : Nat → Int → Option Int) (m : Mem) : Nat → Nat → Int → Int → Option Int
  | 0 => fun _ _ _ => none
  | f + 1 => X11_isFreeTold_L40_b N k78 m (X11_isFreeTold_L40 N k78 m f)
def X11_isFreeTold_L80_b (N : Nat) (m : Mem) (r80 : Nat → Int → Int → Option Int) (l0 : Nat) (l1 : Int) (l2 : Int) : Option Int :=
  (getR 11 23 l0 m).bind fun t17 =>
  (getI 11 40 l0 m).bind fun t18 =>
  (aldI t17 t18 m).bind fun t19 =>
  if t19 ≤ l2 then (
    retZ 1
  ) else (
    (getR 11 26 l0 m).bind fun t20 =>
    (getI 11 40 l0 m).bind fun t21 =>
    (aldI t20 (wI ((wI (10 * t21)) + l2)) m).bind fun t22 =>
    if ¬ t22 = l1 then (
      r80 l0 l1 (wI (l2 + 1))
    ) else (
      retZ 0
    )
  )
def X11_isFreeTold_L80 (N : Nat) (m : Mem) : Nat → Nat → Int → Int → Option Int
  | 0 => fun _ _ _ => none
  | f + 1 => X11_isFreeTold_L80_b N m (X11_isFreeTold_L80 N m f)
def X11_isFreeTold (N : Nat) (l0 : Nat) (l1 : Int) (m : Mem) : Option Int :=
  if shK l0 = 11 + 10 then (
    (getR 11 17 l0 m).bind fun t1 =>
    (getI 11 40 l0 m).bind fun t2 =>
    (aldI t1 (wI ((wI (42 * t2)) + l1)) m).bind fun t3 =>
    if t3 = 1 then (
      retZ 0
    ) else (
      (getR 11 18 l0 m).bind fun t4 =>
      (getI 11 40 l0 m).bind fun t5 =>
      (aldI t4 (wI ((wI (42 * t5)) + l1)) m).bind fun t6 =>
      if ¬ t6 = 1 then (
        X11_isFreeTold_L40 N (fun z15 z16 =>
            X11_isFreeTold_L80 N m N z15 z16 0) m N l0 l1 0
      ) else (
        retZ 0
      )
    )
  ) else none
-- DewBaronModel.cellAt(Z)I
def X11_cellAt_J83 (N : Nat) (l0 : Nat) (l3 : Int) (m : Mem) : Option (Int × Mem) :=
  (getI 11 8 l0 m).bind fun t14 =>
  if ¬ t14 = 0 then (
    some (l3, m)
  ) else (
    (X11_ahead N l0 m).bind fun p15 =>
    some (l3, p15)
  )
def X11_cellAt (N : Nat) (l0 : Nat) (l1 : Int) (m : Mem) : Option (Int × Mem) :=
  if shK l0 = 11 + 10 then (
    (X11_must_ N l0 24948 m).bind fun p1 =>
    (getR 11 14 l0 p1).bind fun t2 =>
    (getI 11 40 l0 p1).bind fun t3 =>
    (aldI t2 t3 p1).bind fun t4 =>
    (X11_number N l0 0 (wI (t4 - 1)) p1).bind fun p5 =>
    (getR 11 15 l0 p5.2).bind fun t6 =>
    (getI 11 40 l0 p5.2).bind fun t7 =>
    (aldI t6 t7 p5.2).bind fun t8 =>
    (X11_looked l0 0 (wI (t8 - 1)) p5.2).bind fun p9 =>
    (getR 11 14 l0 p9.2).bind fun t10 =>
    (getI 11 40 l0 p9.2).bind fun t11 =>
    (aldI t10 t11 p9.2).bind fun t12 =>
    (getI 11 8 l0 p9.2).bind fun t13 =>
    if t13 ≤ 0 then (
      if l1 = 0 then (
        X11_cellAt_J83 N l0 (wI ((wI (p9.1 * t12)) + p5.1)) p9.2
      ) else (
        (X11_isFreeTold N l0 (wI ((wI (p9.1 * t12)) + p5.1)) p9.2).bind fun p17 =>
        if ¬ p17 = 0 then (
          X11_cellAt_J83 N l0 (wI ((wI (p9.1 * t12)) + p5.1)) p9.2
        ) else (
          (getI 11 4 l0 p9.2).bind fun t18 =>
          (X11_blame l0 4 t18 p9.2).bind fun p19 =>
          X11_cellAt_J83 N l0 (wI ((wI (p9.1 * t12)) + p5.1)) p19
        )
      )
    ) else (
      some (0, p9.2)
    )
  ) else none
-- DewBaronModel.cistern(II)I
def X11_cistern_J111 (N : Nat) (r80 : Nat → Int → Int → Int → Mem → Option (Int × Mem)) (l0 : Nat) (l1 : Int) (l4 : Int) (s0 : Int) (s1 : Int) (m : Mem) : Option (Int × Mem) :=
  r80 l0 l1 (wI (s0 + s1)) (wI (l4 + 1)) m
def X11_cistern_L80_b (N : Nat) (r80 : Nat → Int → Int → Int → Mem → Option (Int × Mem)) (l0 : Nat) (l1 : Int) (l3 : Int) (l4 : Int) (m : Mem) : Option (Int × Mem) :=
  (getR 11 23 l0 m).bind fun t12 =>
  (getI 11 13 l0 m).bind fun t13 =>
  (aldI t12 t13 m).bind fun t14 =>
  if t14 ≤ l4 then (
    some (l3, m)
  ) else (
    (X11_cisternOf N l0 0 l4 m).bind fun p15 =>
    if ¬ p15 = l1 then (
      X11_cistern_J111 N r80 l0 l1 l4 l3 0 m
    ) else (
      X11_cistern_J111 N r80 l0 l1 l4 l3 1 m
    )
  )
def X11_cistern_L80 (N : Nat) : Nat → Nat → Int → Int → Int → Mem → Option (Int × Mem)
  | 0 => fun _ _ _ _ _ => none
  | f + 1 => X11_cistern_L80_b N (X11_cistern_L80 N f)
def X11_cistern (N : Nat) (l0 : Nat) (l1 : Int) (l2 : Int) (m : Mem) : Option (Int × Mem) :=
  if shK l0 = 11 + 10 then (
    (X11_isCistern l0 l1 m).bind fun p1 =>
    if ¬ p1 = 0 then (
      if l2 = 0 then (
        (getR 11 22 l0 m).bind fun t2 =>
        (getI 11 13 l0 m).bind fun t3 =>
        (aldI t2 (wI ((wI (5 * t3)) + l1)) m).bind fun t4 =>
        some (t4, m)
      ) else
      if l2 = 1 then (
        (getR 11 53 l0 m).bind fun t6 =>
        (aldI t6 l1 m).bind fun t7 =>
        some (t7, m)
      ) else
      if l2 = 2 then (
        (X11_nightAsTold N l0 0 m).bind fun p9 =>
        (X11_comes N l0 0 l1 p9).bind fun p10 =>
        some (p10, p9)
      ) else
      if l2 = 3 then (
        X11_cistern_L80 N N l0 l1 0 0 m
      ) else
      some ((-1), m)
    ) else (
      some ((-1), m)
    )
  ) else none
-- DewBaronModel.counts(Z)Z
def X11_counts_J32 (N : Nat) (l0 : Nat) (m : Mem) : Option (Int × Mem) :=
  (getI 11 8 l0 m).bind fun t3 =>
  if ¬ t3 = 0 then (
    (retZ 0).bind fun r4 => some (r4, m)
  ) else (
    (retZ 1).bind fun r5 => some (r5, m)
  )
def X11_counts_J21 (N : Nat) (l0 : Nat) (m : Mem) : Option (Int × Mem) :=
  (getI 11 8 l0 m).bind fun t2 =>
  if ¬ t2 = 0 then (
    X11_counts_J32 N l0 m
  ) else (
    (X11_ahead N l0 m).bind fun p7 =>
    X11_counts_J32 N l0 p7
  )
def X11_counts (N : Nat) (l0 : Nat) (l1 : Int) (m : Mem) : Option (Int × Mem) :=
  if shK l0 = 11 + 10 then (
    (getI 11 8 l0 m).bind fun t1 =>
    if ¬ t1 = 0 then (
      X11_counts_J21 N l0 m
    ) else (
      if l1 = 0 then (
        X11_counts_J21 N l0 m
      ) else (
        (getI 11 4 l0 m).bind fun t9 =>
        (X11_blame l0 6 t9 m).bind fun p10 =>
        X11_counts_J21 N l0 p10
      )
    )
  ) else none
-- DewBaronModel.isNamed(J)Z
def X11_isNamed_L2_b (N : Nat) (k41 : Nat → Int → Option Int) (m : Mem) (r2 : Nat → Int → Int → Option Int) (l0 : Nat) (l1 : Int) (l3 : Int) : Option Int :=
  (getR 11 21 l0 m).bind fun t1 =>
  (getI 11 40 l0 m).bind fun t2 =>
  (aldI t1 t2 m).bind fun t3 =>
  if t3 ≤ l3 then (
    k41 l0 l1
  ) else (
    (getR 11 37 l0 m).bind fun t4 =>
    (getI 11 40 l0 m).bind fun t5 =>
    (aldL t4 (wI ((wI (5 * t5)) + l3)) m).bind fun t6 =>
    if ¬ (lcm t6 l1) = 0 then (
      r2 l0 l1 (wI (l3 + 1))
    ) else (
      retZ 1
    )
  )
def X11_isNamed_L2 (N : Nat) (k41 : Nat → Int → Option Int) (m : Mem) : Nat → Nat → Int → Int → Option Int
  | 0 => fun _ _ _ => none
  | f + 1 => X11_isNamed_L2_b N k41 m (X11_isNamed_L2 N k41 m f)
def X11_isNamed_J94 (N : Nat) (r43 : Nat → Int → Int → Option Int) (l0 : Nat) (l1 : Int) (l3 : Int) (m : Mem) : Option Int :=
  r43 l0 l1 (wI (l3 + 1))
def X11_isNamed_L43_b (N : Nat) (m : Mem) (r43 : Nat → Int → Int → Option Int) (l0 : Nat) (l1 : Int) (l3 : Int) : Option Int :=
  (getR 11 23 l0 m).bind fun t11 =>
  (getI 11 40 l0 m).bind fun t12 =>
  (aldI t11 t12 m).bind fun t13 =>
  if t13 ≤ l3 then (
    retZ 0
  ) else (
    (getR 11 24 l0 m).bind fun t14 =>
    (getI 11 40 l0 m).bind fun t15 =>
    (aldI t14 (wI ((wI (10 * t15)) + l3)) m).bind fun t16 =>
    if ¬ t16 = 0 then (
      X11_isNamed_J94 N r43 l0 l1 l3 m
    ) else (
      (getR 11 38 l0 m).bind fun t17 =>
      (getI 11 40 l0 m).bind fun t18 =>
      (aldL t17 (wI ((wI (10 * t18)) + l3)) m).bind fun t19 =>
      if ¬ (lcm t19 l1) = 0 then (
        X11_isNamed_J94 N r43 l0 l1 l3 m
      ) else (
        retZ 1
      )
    )
  )
def X11_isNamed_L43 (N : Nat) (m : Mem) : Nat → Nat → Int → Int → Option Int
  | 0 => fun _ _ _ => none
  | f + 1 => X11_isNamed_L43_b N m (X11_isNamed_L43 N m f)
def X11_isNamed (N : Nat) (l0 : Nat) (l1 : Int) (m : Mem) : Option Int :=
  if shK l0 = 11 + 10 then (
    X11_isNamed_L2 N (fun z9 z10 =>
        X11_isNamed_L43 N m N z9 z10 0) m N l0 l1 0
  ) else none
-- DewBaronModel.fresh()J
def X11_fresh_J68 (N : Nat) (l0 : Nat) (m : Mem) : Option (Int × Mem) :=
  (getI 11 7 l0 m).bind fun t7 =>
  (getI 11 8 l0 m).bind fun t8 =>
  if ¬ t8 = 0 then (
    some (t7, m)
  ) else (
    (X11_ahead N l0 m).bind fun p9 =>
    some (t7, p9)
  )
def X11_fresh_J41 (N : Nat) (l0 : Nat) (m : Mem) : Option (Int × Mem) :=
  (getI 11 8 l0 m).bind fun t6 =>
  if ¬ t6 = 0 then (
    X11_fresh_J68 N l0 m
  ) else (
    (getI 11 7 l0 m).bind fun t11 =>
    (X11_isNamed N l0 t11 m).bind fun p12 =>
    if p12 = 0 then (
      X11_fresh_J68 N l0 m
    ) else (
      (getI 11 4 l0 m).bind fun t13 =>
      (X11_blame l0 2 t13 m).bind fun p14 =>
      X11_fresh_J68 N l0 p14
    )
  )
def X11_fresh_J32 (N : Nat) (l0 : Nat) (m : Mem) : Option (Int × Mem) :=
  (getI 11 4 l0 m).bind fun t4 =>
  (X11_blame l0 1 t4 m).bind fun p5 =>
  X11_fresh_J41 N l0 p5
def X11_fresh (N : Nat) (l0 : Nat) (m : Mem) : Option (Int × Mem) :=
  if shK l0 = 11 + 10 then (
    (X11_lex l0 m).bind fun p1 =>
    (getI 11 8 l0 p1).bind fun t2 =>
    if t2 ≤ 0 then (
      (getI 11 3 l0 p1).bind fun t3 =>
      if ¬ t3 = 1 then (
        X11_fresh_J32 N l0 p1
      ) else (
        (getI 11 7 l0 p1).bind fun t17 =>
        (X11_isOwn l0 t17 p1).bind fun p18 =>
        if p18 = 0 then (
          X11_fresh_J41 N l0 p1
        ) else (
          X11_fresh_J32 N l0 p1
        )
      )
    ) else (
      some (0, p1)
    )
  ) else none
-- DewBaronModel.cisterning()V
def X11_cisterning_J19 (N : Nat) (l0 : Nat) (s0 : Nat) (s1 : Int) (m : Mem) : Option Mem :=
  (X11_counts N s0 s1 m).bind fun p4 =>
  if ¬ p4.1 = 0 then (
    (getI 11 40 l0 p4.2).bind fun t5 =>
    (getR 11 21 l0 p4.2).bind fun t6 =>
    (getI 11 40 l0 p4.2).bind fun t7 =>
    (aldI t6 t7 p4.2).bind fun t8 =>
    (getR 11 37 l0 p4.2).bind fun t9 =>
    (X11_fresh N l0 p4.2).bind fun p10 =>
    (astL t9 (wI ((wI (5 * t5)) + t8)) p10.1 p10.2).bind fun m11 =>
    (getR 11 22 l0 m11).bind fun t12 =>
    (X11_cellAt N l0 1 m11).bind fun p13 =>
    (astI t12 (wI ((wI (5 * t5)) + t8)) p13.1 p13.2).bind fun m14 =>
    (getI 11 8 l0 m14).bind fun t15 =>
    if ¬ t15 = 0 then (
      some m14
    ) else (
      (getR 11 21 l0 m14).bind fun t16 =>
      (getI 11 40 l0 m14).bind fun t17 =>
      (aldI t16 t17 m14).bind fun t18 =>
      (astI t16 t17 (wI (t18 + 1)) m14).bind fun m19 =>
      some m19
    )
  ) else (
    some p4.2
  )
def X11_cisterning (N : Nat) (l0 : Nat) (m : Mem) : Option Mem :=
  if shK l0 = 11 + 10 then (
    (getR 11 21 l0 m).bind fun t1 =>
    (getI 11 40 l0 m).bind fun t2 =>
    (aldI t1 t2 m).bind fun t3 =>
    if ¬ t3 = 5 then (
      X11_cisterning_J19 N l0 l0 0 m
    ) else (
      X11_cisterning_J19 N l0 l0 1 m
    )
  ) else none
-- DewBaronModel.cold(II)I
def X11_cold (N : Nat) (l0 : Nat) (l1 : Int) (l2 : Int) (m : Mem) : Option (Int × Mem) :=
  if shK l0 = 11 + 10 then (
    (X11_isCell l0 l1 m).bind fun p1 =>
    if p1 = 0 then (
      some ((-1), m)
    ) else (
      (X11_is l2 0 12 m).bind fun p2 =>
      if ¬ p2 = 0 then (
        (X11_nightAsTold N l0 0 m).bind fun p3 =>
        (getR 11 63 l0 p3).bind fun t4 =>
        (aldI t4 (wI ((wI (42 * l2)) + l1)) p3).bind fun t5 =>
        some (t5, p3)
      ) else (
        some ((-1), m)
      )
    )
  ) else none
-- DewBaronModel.isIsland()Z
def X11_isIsland (l0 : Nat) (m : Mem) : Option Int :=
  if shK l0 = 11 + 10 then (
    (getR 11 14 l0 m).bind fun t1 =>
    (getI 11 13 l0 m).bind fun t2 =>
    (aldI t1 t2 m).bind fun t3 =>
    if t3 ≤ 0 then (
      retZ 0
    ) else (
      retZ 1
    )
  ) else none
-- DewBaronModel.twoBytes(I)I
def X11_twoBytes (l0 : Nat) (l1 : Int) (m : Mem) : Option Int :=
  if shK l0 = 11 + 10 then (
    (getR 11 0 l0 m).bind fun t1 =>
    (aldI t1 l1 m).bind fun t2 =>
    (getR 11 0 l0 m).bind fun t3 =>
    (aldI t3 (wI (l1 + 1)) m).bind fun t4 =>
    some (ior (ishl t2 8) t4)
  ) else none
-- DewBaronModel.comesOn(I)Z
def X11_comesOn_L60_b (N : Nat) (k92 : Nat → Int → Int → Int → Int → Mem → Option (Int × Mem)) (r60 : Nat → Int → Int → Int → Int → Int → Mem → Option (Int × Mem)) (l0 : Nat) (l1 : Int) (l2 : Int) (l3 : Int) (l4 : Int) (l5 : Int) (m : Mem) : Option (Int × Mem) :=
  if (wI (l1 - 1)) ≤ l5 then (
    k92 l0 l1 l2 l3 l4 m
  ) else (
    (getR 11 0 l0 m).bind fun t10 =>
    (aldI t10 l5 m).bind fun t11 =>
    r60 l0 l1 l2 l3 (wI (Int.tmod (wI ((wI (5 * l4)) + t11)) 251)) (wI (l5 + 1)) m
  )
def X11_comesOn_L60 (N : Nat) (k92 : Nat → Int → Int → Int → Int → Mem → Option (Int × Mem)) : Nat → Nat → Int → Int → Int → Int → Int → Mem → Option (Int × Mem)
  | 0 => fun _ _ _ _ _ _ _ => none
  | f + 1 => X11_comesOn_L60_b N k92 (X11_comesOn_L60 N k92 f)
def X11_comesOn_L116_b (N : Nat) (k165 : Nat → Int → Int → Mem → Option (Int × Mem)) (r116 : Nat → Int → Int → Int → Mem → Option (Int × Mem)) (l0 : Nat) (l2 : Int) (l3 : Int) (l5 : Int) (m : Mem) : Option (Int × Mem) :=
  (X11_cells l0 m).bind fun p22 =>
  if p22 ≤ l5 then (
    k165 l0 l2 l3 m
  ) else (
    (getR 11 0 l0 m).bind fun t23 =>
    (aldI t23 (wI (2 + l5)) m).bind fun t24 =>
    if t24 ≤ 1 then (
      (getR 11 51 l0 m).bind fun t25 =>
      (getR 11 0 l0 m).bind fun t26 =>
      (aldI t26 (wI (2 + l5)) m).bind fun t27 =>
      (astI t25 (wI (42 + l5)) t27 m).bind fun m28 =>
      r116 l0 l2 l3 (wI (l5 + 1)) m28
    ) else (
      (retZ 0).bind fun r29 => some (r29, m)
    )
  )
def X11_comesOn_L116 (N : Nat) (k165 : Nat → Int → Int → Mem → Option (Int × Mem)) : Nat → Nat → Int → Int → Int → Mem → Option (Int × Mem)
  | 0 => fun _ _ _ _ _ => none
  | f + 1 => X11_comesOn_L116_b N k165 (X11_comesOn_L116 N k165 f)
def X11_comesOn_L168_b (N : Nat) (k206 : Nat → Int → Mem → Option (Int × Mem)) (r168 : Nat → Int → Int → Int → Mem → Option (Int × Mem)) (l0 : Nat) (l2 : Int) (l3 : Int) (l5 : Int) (m : Mem) : Option (Int × Mem) :=
  (X11_cloths N l0 m).bind fun p36 =>
  if p36 ≤ l5 then (
    k206 l0 l3 m
  ) else (
    (getR 11 52 l0 m).bind fun t37 =>
    (X11_cloth N l0 l5 m).bind fun p38 =>
    (getR 11 0 l0 m).bind fun t39 =>
    (aldI t39 (wI (l2 + l5)) m).bind fun t40 =>
    (astI t37 (wI (10 + p38)) t40 m).bind fun m41 =>
    r168 l0 l2 l3 (wI (l5 + 1)) m41
  )
def X11_comesOn_L168 (N : Nat) (k206 : Nat → Int → Mem → Option (Int × Mem)) : Nat → Nat → Int → Int → Int → Mem → Option (Int × Mem)
  | 0 => fun _ _ _ _ _ => none
  | f + 1 => X11_comesOn_L168_b N k206 (X11_comesOn_L168 N k206 f)
def X11_comesOn_L209_b (N : Nat) (k265 : Nat → Mem → Option (Int × Mem)) (r209 : Nat → Int → Int → Mem → Option (Int × Mem)) (l0 : Nat) (l3 : Int) (l5 : Int) (m : Mem) : Option (Int × Mem) :=
  (getR 11 21 l0 m).bind fun t46 =>
  (getI 11 13 l0 m).bind fun t47 =>
  (aldI t46 t47 m).bind fun t48 =>
  if t48 ≤ l5 then (
    k265 l0 m
  ) else (
    (getR 11 53 l0 m).bind fun t49 =>
    (X11_twoBytes l0 (wI (l3 + (wI (2 * l5)))) m).bind fun p50 =>
    (astI t49 (wI (5 + l5)) p50 m).bind fun m51 =>
    (getR 11 53 l0 m51).bind fun t52 =>
    (aldI t52 (wI (5 + l5)) m51).bind fun t53 =>
    if t53 ≤ 9999 then (
      r209 l0 l3 (wI (l5 + 1)) m51
    ) else (
      (retZ 0).bind fun r54 => some (r54, m51)
    )
  )
def X11_comesOn_L209 (N : Nat) (k265 : Nat → Mem → Option (Int × Mem)) : Nat → Nat → Int → Int → Mem → Option (Int × Mem)
  | 0 => fun _ _ _ _ => none
  | f + 1 => X11_comesOn_L209_b N k265 (X11_comesOn_L209 N k265 f)
def X11_comesOn (N : Nat) (l0 : Nat) (l1 : Int) (m : Mem) : Option (Int × Mem) :=
  if shK l0 = 11 + 10 then (
    (X11_cells l0 m).bind fun p1 =>
    (X11_cloths N l0 m).bind fun p2 =>
    (X11_isIsland l0 m).bind fun p3 =>
    if p3 = 0 then (
      (retZ 0).bind fun r4 => some (r4, m)
    ) else (
      (getR 11 21 l0 m).bind fun t5 =>
      (getI 11 13 l0 m).bind fun t6 =>
      (aldI t5 t6 m).bind fun t7 =>
      if ¬ l1 = (wI ((wI ((wI ((wI (2 + p1)) + p2)) + (wI (2 * t7)))) + 1)) then (
        (retZ 0).bind fun r8 => some (r8, m)
      ) else (
        (X11_twoBytes l0 0 m).bind fun p9 =>
        if p9 ≤ 9999 then (
          X11_comesOn_L60 N (fun z13 z14 z15 z16 z17 m18 =>
              (getR 11 0 z13 m18).bind fun t19 =>
              (aldI t19 (wI (z14 - 1)) m18).bind fun t20 =>
              if t20 = z17 then (
                (X11_copies N z13 1 0 m18).bind fun p21 =>
                X11_comesOn_L116 N (fun z32 z33 z34 m35 =>
                    X11_comesOn_L168 N (fun z43 z44 m45 =>
                        X11_comesOn_L209 N (fun z57 m58 =>
                            (getR 11 50 z57 m58).bind fun t59 =>
                            (X11_twoBytes z57 0 m58).bind fun p60 =>
                            (astI t59 1 p60 m58).bind fun m61 =>
                            (X11_canBe N z57 m61).bind fun p62 =>
                            (retZ p62).bind fun r63 => some (r63, m61)) N z43 z44 0 m45) N z32 z33 z34 0 m35) N z13 z15 z16 0 p21
              ) else (
                (retZ 0).bind fun r64 => some (r64, m18)
              )) N l0 l1 (wI (2 + p1)) (wI ((wI (2 + p1)) + p2)) 79 0 m
        ) else (
          (retZ 0).bind fun r66 => some (r66, m)
        )
      )
    )
  ) else none
-- DewBaronModel.isStep(II)Z
def X11_isStep (l0 : Nat) (l1 : Int) (l2 : Int) (m : Mem) : Option Int :=
  if shK l0 = 11 + 10 then (
    (X11_isWall l0 0 l1 m).bind fun p1 =>
    if ¬ p1 = 0 then (
      retZ 0
    ) else (
      (X11_isWall l0 0 l2 m).bind fun p2 =>
      if ¬ p2 = 0 then (
        retZ 0
      ) else (
        (X11_apart l0 l1 l2 m).bind fun p3 =>
        if ¬ p3 = 1 then (
          retZ 0
        ) else (
          retZ 1
        )
      )
    )
  ) else none
-- DewBaronModel.countsWays(I)V
def X11_countsWays_J100 (N : Nat) (r36 : Nat → Int → Int → Int → Int → Int → Int → Mem → Option Mem) (l0 : Nat) (l1 : Int) (l2 : Int) (l3 : Int) (l4 : Int) (l6 : Int) (s0 : Int) (s1 : Int) (m : Mem) : Option Mem :=
  r36 l0 l1 l2 l3 l4 (wI (s0 + s1)) (wI (l6 + 1)) m
def X11_countsWays_J99 (N : Nat) (r36 : Nat → Int → Int → Int → Int → Int → Int → Mem → Option Mem) (l0 : Nat) (l1 : Int) (l2 : Int) (l3 : Int) (l4 : Int) (l6 : Int) (s0 : Int) (m : Mem) : Option Mem :=
  X11_countsWays_J100 N r36 l0 l1 l2 l3 l4 l6 s0 0 m
def X11_countsWays_L36_b (N : Nat) (k109 : Nat → Int → Int → Int → Int → Int → Mem → Option Mem) (r36 : Nat → Int → Int → Int → Int → Int → Int → Mem → Option Mem) (l0 : Nat) (l1 : Int) (l2 : Int) (l3 : Int) (l4 : Int) (l5 : Int) (l6 : Int) (m : Mem) : Option Mem :=
  if l1 ≤ l6 then (
    k109 l0 l1 l2 l3 l4 l5 m
  ) else (
    if l3 = l2 then (
      k109 l0 l1 l2 l3 l4 l5 m
    ) else (
      if ¬ (iand (ishr l3 l6) 1) = 0 then (
        X11_countsWays_J99 N r36 l0 l1 l2 l3 l4 l6 l5 m
      ) else (
        (getR 11 74 l0 m).bind fun t1 =>
        (aldI t1 l4 m).bind fun t2 =>
        (getR 11 74 l0 m).bind fun t3 =>
        (aldI t3 l6 m).bind fun t4 =>
        (X11_isStep l0 t2 t4 m).bind fun p5 =>
        if p5 = 0 then (
          X11_countsWays_J99 N r36 l0 l1 l2 l3 l4 l6 l5 m
        ) else (
          (getR 11 75 l0 m).bind fun t6 =>
          (aldI t6 (wI ((wI (10 * (ior l3 (ishl 1 l6)))) + l6)) m).bind fun t7 =>
          X11_countsWays_J100 N r36 l0 l1 l2 l3 l4 l6 l5 t7 m
        )
      )
    )
  )
def X11_countsWays_L36 (N : Nat) (k109 : Nat → Int → Int → Int → Int → Int → Mem → Option Mem) : Nat → Nat → Int → Int → Int → Int → Int → Int → Mem → Option Mem
  | 0 => fun _ _ _ _ _ _ _ _ => none
  | f + 1 => X11_countsWays_L36_b N k109 (X11_countsWays_L36 N k109 f)
def X11_countsWays_J31 (N : Nat) (r15 : Nat → Int → Int → Int → Int → Mem → Option Mem) (l0 : Nat) (l1 : Int) (l2 : Int) (l3 : Int) (l4 : Int) (s0 : Int) (m : Mem) : Option Mem :=
  X11_countsWays_L36 N (fun z12 z13 z14 z15 z16 z17 m18 =>
      (getR 11 75 z12 m18).bind fun t19 =>
      (astI t19 (wI ((wI (10 * z15)) + z16)) z17 m18).bind fun m20 =>
      r15 z12 z13 z14 z15 (wI (z16 + 1)) m20) N l0 l1 l2 l3 l4 s0 0 m
def X11_countsWays_L15_b (N : Nat) (k129 : Nat → Int → Int → Int → Mem → Option Mem) (r15 : Nat → Int → Int → Int → Int → Mem → Option Mem) (l0 : Nat) (l1 : Int) (l2 : Int) (l3 : Int) (l4 : Int) (m : Mem) : Option Mem :=
  if l1 ≤ l4 then (
    k129 l0 l1 l2 l3 m
  ) else (
    if ¬ l3 = l2 then (
      X11_countsWays_J31 N r15 l0 l1 l2 l3 l4 0 m
    ) else (
      X11_countsWays_J31 N r15 l0 l1 l2 l3 l4 1 m
    )
  )
def X11_countsWays_L15 (N : Nat) (k129 : Nat → Int → Int → Int → Mem → Option Mem) : Nat → Nat → Int → Int → Int → Int → Mem → Option Mem
  | 0 => fun _ _ _ _ _ _ => none
  | f + 1 => X11_countsWays_L15_b N k129 (X11_countsWays_L15 N k129 f)
def X11_countsWays_L8_b (N : Nat) (r8 : Nat → Int → Int → Int → Mem → Option Mem) (l0 : Nat) (l1 : Int) (l2 : Int) (l3 : Int) (m : Mem) : Option Mem :=
  if l3 ≤ 0 then (
    some m
  ) else (
    X11_countsWays_L15 N (fun z23 z24 z25 z26 m27 =>
        r8 z23 z24 z25 (wI (z26 + (-1))) m27) N l0 l1 l2 l3 0 m
  )
def X11_countsWays_L8 (N : Nat) : Nat → Nat → Int → Int → Int → Mem → Option Mem
  | 0 => fun _ _ _ _ _ => none
  | f + 1 => X11_countsWays_L8_b N (X11_countsWays_L8 N f)
def X11_countsWays (N : Nat) (l0 : Nat) (l1 : Int) (m : Mem) : Option Mem :=
  if shK l0 = 11 + 10 then (
    X11_countsWays_L8 N N l0 l1 (wI ((ishl 1 l1) - 1)) (wI ((ishl 1 l1) - 1)) m
  ) else none
-- DewBaronModel.isThing(I)Z
def X11_isThing (l0 : Nat) (l1 : Int) (m : Mem) : Option Int :=
  if shK l0 = 11 + 10 then (
    if l1 < 0 then (
      retZ 0
    ) else (
      (getR 11 23 l0 m).bind fun t1 =>
      (getI 11 13 l0 m).bind fun t2 =>
      (aldI t1 t2 m).bind fun t3 =>
      if t3 ≤ l1 then (
        retZ 0
      ) else (
        retZ 1
      )
    )
  ) else none
-- DewBaronModel.dew(III)I
def X11_dew (N : Nat) (l0 : Nat) (l1 : Int) (l2 : Int) (l3 : Int) (m : Mem) : Option (Int × Mem) :=
  if shK l0 = 11 + 10 then (
    (X11_isThing l0 l1 m).bind fun p1 =>
    if p1 = 0 then (
      some ((-1), m)
    ) else (
      (X11_is l2 1 12 m).bind fun p2 =>
      if p2 = 0 then (
        some ((-1), m)
      ) else (
        (X11_is l3 0 2 m).bind fun p3 =>
        if ¬ p3 = 0 then (
          (X11_nightAsTold N l0 0 m).bind fun p4 =>
          if ¬ l3 = 0 then (
            if ¬ l3 = 1 then (
              (getR 11 66 l0 p4).bind fun t5 =>
              (aldI t5 (wI ((wI (10 * l2)) + l1)) p4).bind fun t6 =>
              some (t6, p4)
            ) else (
              (getR 11 65 l0 p4).bind fun t7 =>
              (aldI t7 (wI ((wI (10 * l2)) + l1)) p4).bind fun t8 =>
              some (t8, p4)
            )
          ) else (
            (getR 11 64 l0 p4).bind fun t10 =>
            (aldI t10 (wI ((wI (10 * l2)) + l1)) p4).bind fun t11 =>
            some (t11, p4)
          )
        ) else (
          some ((-1), m)
        )
      )
    )
  ) else none
-- DewBaronModel.pushes(I)V
def X11_pushes (l0 : Nat) (l1 : Int) (m : Mem) : Option Mem :=
  if shK l0 = 11 + 10 then (
    (getR 11 41 l0 m).bind fun t1 =>
    (getI 11 44 l0 m).bind fun t2 =>
    (astI t1 t2 l1 m).bind fun m3 =>
    (getR 11 43 l0 m3).bind fun t4 =>
    (getI 11 44 l0 m3).bind fun t5 =>
    (getI 11 47 l0 m3).bind fun t6 =>
    (astI t4 t5 t6 m3).bind fun m7 =>
    (getI 11 44 l0 m7).bind fun t8 =>
    (putI 11 44 l0 (wI (t8 + 1)) m7).bind fun m9 =>
    some m9
  ) else none
-- DewBaronModel.isSign(I)Z
def X11_isSign (l0 : Nat) (l1 : Int) (m : Mem) : Option Int :=
  if shK l0 = 11 + 10 then (
    (getI 11 3 l0 m).bind fun t1 =>
    if ¬ t1 = 3 then (
      retZ 0
    ) else (
      (getI 11 6 l0 m).bind fun t2 =>
      if ¬ t2 = l1 then (
        retZ 0
      ) else (
        retZ 1
      )
    )
  ) else none
-- DewBaronModel.opens(I)V
def X11_opens_J18 (N : Nat) (l0 : Nat) (l1 : Int) (m : Mem) : Option Mem :=
  (getI 11 8 l0 m).bind fun t2 =>
  if t2 ≤ 0 then (
    (getI 11 45 l0 m).bind fun t3 =>
    (putI 11 45 l0 (wI (t3 + 1)) m).bind fun m4 =>
    (X11_ahead N l0 m4).bind fun p5 =>
    (X11_pushes l0 l1 p5).bind fun p6 =>
    some p6
  ) else (
    some m
  )
def X11_opens (N : Nat) (l0 : Nat) (l1 : Int) (m : Mem) : Option Mem :=
  if shK l0 = 11 + 10 then (
    (getI 11 45 l0 m).bind fun t1 =>
    if ¬ t1 = 7 then (
      X11_opens_J18 N l0 l1 m
    ) else (
      (getI 11 4 l0 m).bind fun t8 =>
      (X11_blame l0 5 t8 m).bind fun p9 =>
      X11_opens_J18 N l0 l1 p9
    )
  ) else none
-- DewBaronModel.operand()Z
def X11_operand_J93 (N : Nat) (l0 : Nat) (l1 : Int) (m : Mem) : Option (Int × Mem) :=
  (X11_opens N l0 3 m).bind fun p9 =>
  (getI 11 8 l0 p9).bind fun t10 =>
  if ¬ t10 = 0 then (
    (retZ 0).bind fun r11 => some (r11, p9)
  ) else (
    (getR 11 42 l0 p9).bind fun t12 =>
    (getI 11 44 l0 p9).bind fun t13 =>
    (astI t12 (wI (t13 - 1)) l1 p9).bind fun m14 =>
    (retZ 0).bind fun r15 => some (r15, m14)
  )
def X11_operand_J66 (N : Nat) (l0 : Nat) (s0 : Int) (m : Mem) : Option (Int × Mem) :=
  (X11_ahead N l0 m).bind fun p6 =>
  (X11_lex l0 p6).bind fun p7 =>
  (X11_isSign l0 40 p7).bind fun p8 =>
  if ¬ p8 = 0 then (
    X11_operand_J93 N l0 s0 p7
  ) else (
    (getI 11 4 l0 p7).bind fun t17 =>
    (X11_blame l0 1 t17 p7).bind fun p18 =>
    X11_operand_J93 N l0 s0 p18
  )
def X11_operand_J49 (N : Nat) (l0 : Nat) (m : Mem) : Option (Int × Mem) :=
  (X11_isWord l0 7170414 m).bind fun p5 =>
  if p5 = 0 then (
    X11_operand_J66 N l0 16 m
  ) else (
    X11_operand_J66 N l0 15 m
  )
def X11_operand_J292 (N : Nat) (l0 : Nat) (l1 : Int) (m : Mem) : Option (Int × Mem) :=
  (getI 11 8 l0 m).bind fun t33 =>
  if t33 ≤ 0 then (
    (getI 11 6 l0 m).bind fun t34 =>
    (X11_add l0 l1 t34 m).bind fun p35 =>
    (X11_ahead N l0 p35).bind fun p36 =>
    (retZ 1).bind fun r37 => some (r37, p36)
  ) else (
    (retZ 1).bind fun r38 => some (r38, m)
  )
def X11_operand_J277 (N : Nat) (l0 : Nat) (s0 : Int) (m : Mem) : Option (Int × Mem) :=
  if ¬ s0 = (-1) then (
    X11_operand_J292 N l0 s0 m
  ) else (
    (getI 11 4 l0 m).bind fun t40 =>
    (X11_blame l0 1 t40 m).bind fun p41 =>
    X11_operand_J292 N l0 s0 p41
  )
def X11_operand (N : Nat) (l0 : Nat) (m : Mem) : Option (Int × Mem) :=
  if shK l0 = 11 + 10 then (
    (X11_lex l0 m).bind fun p1 =>
    (getI 11 8 l0 p1).bind fun t2 =>
    if t2 ≤ 0 then (
      (X11_isSign l0 40 p1).bind fun p3 =>
      if p3 = 0 then (
        (X11_isWord l0 7170414 p1).bind fun p4 =>
        if ¬ p4 = 0 then (
          X11_operand_J49 N l0 p1
        ) else (
          (X11_isWord l0 7168376 p1).bind fun p21 =>
          if p21 = 0 then (
            (getI 11 3 l0 p1).bind fun t22 =>
            if ¬ t22 = 2 then (
              (X11_isWord l0 499850634611 p1).bind fun p23 =>
              if p23 = 0 then (
                (X11_isWord l0 1869636974 p1).bind fun p24 =>
                if p24 = 0 then (
                  (X11_isWord l0 1751738216 p1).bind fun p25 =>
                  if p25 = 0 then (
                    (X11_isWord l0 1668246628 p1).bind fun p26 =>
                    if p26 = 0 then (
                      (X11_isWord l0 1752135026 p1).bind fun p27 =>
                      if p27 = 0 then (
                        (X11_isWord l0 427021006180 p1).bind fun p28 =>
                        if p28 = 0 then (
                          (X11_isWord l0 2003398244 p1).bind fun p29 =>
                          if p29 = 0 then (
                            (X11_isWord l0 495757257573 p1).bind fun p30 =>
                            if p30 = 0 then (
                              (X11_isWord l0 1852137842 p1).bind fun p31 =>
                              if p31 = 0 then (
                                (X11_isWord l0 7824756 p1).bind fun p32 =>
                                if p32 = 0 then (
                                  X11_operand_J277 N l0 (-1) p1
                                ) else (
                                  X11_operand_J277 N l0 30 p1
                                )
                              ) else (
                                X11_operand_J277 N l0 9 p1
                              )
                            ) else (
                              X11_operand_J277 N l0 8 p1
                            )
                          ) else (
                            X11_operand_J277 N l0 7 p1
                          )
                        ) else (
                          X11_operand_J277 N l0 6 p1
                        )
                      ) else (
                        X11_operand_J277 N l0 5 p1
                      )
                    ) else (
                      X11_operand_J277 N l0 4 p1
                    )
                  ) else (
                    X11_operand_J277 N l0 3 p1
                  )
                ) else (
                  X11_operand_J277 N l0 2 p1
                )
              ) else (
                X11_operand_J277 N l0 1 p1
              )
            ) else (
              X11_operand_J277 N l0 0 p1
            )
          ) else (
            X11_operand_J49 N l0 p1
          )
        )
      ) else (
        (X11_opens N l0 2 p1).bind fun p56 =>
        (retZ 0).bind fun r57 => some (r57, p56)
      )
    ) else (
      (retZ 1).bind fun r59 => some (r59, p1)
    )
  ) else none
-- DewBaronModel.rank(I)I
def X11_rank_J12 (m : Mem) : Option Int :=
  some 5
def X11_rank (l0 : Int) (m : Mem) : Option Int :=
  if l0 = 10 then (
    X11_rank_J12 m
  ) else (
    if ¬ l0 = 11 then (
      some 6
    ) else (
      X11_rank_J12 m
    )
  )
-- DewBaronModel.joins(I)V
def X11_joins_L0_b (N : Nat) (r0 : Nat → Int → Mem → Option Mem) (l0 : Nat) (l1 : Int) (m : Mem) : Option Mem :=
  (getI 11 47 l0 m).bind fun t15 =>
  (getR 11 43 l0 m).bind fun t16 =>
  (getI 11 44 l0 m).bind fun t17 =>
  (aldI t16 (wI (t17 - 1)) m).bind fun t18 =>
  if t15 ≤ t18 then (
    some m
  ) else (
    (getR 11 46 l0 m).bind fun t19 =>
    (getI 11 47 l0 m).bind fun t20 =>
    (aldI t19 (wI (t20 - 1)) m).bind fun t21 =>
    (X11_rank t21 m).bind fun p22 =>
    if p22 < l1 then (
      some m
    ) else (
      (getI 11 47 l0 m).bind fun t23 =>
      (putI 11 47 l0 (wI (t23 - 1)) m).bind fun m24 =>
      (getR 11 46 l0 m24).bind fun t25 =>
      (getI 11 47 l0 m24).bind fun t26 =>
      (aldI t25 t26 m24).bind fun t27 =>
      (X11_add l0 t27 0 m24).bind fun p28 =>
      r0 l0 l1 p28
    )
  )
def X11_joins_L0 (N : Nat) : Nat → Nat → Int → Mem → Option Mem
  | 0 => fun _ _ _ => none
  | f + 1 => X11_joins_L0_b N (X11_joins_L0 N f)
def X11_joins (N : Nat) (l0 : Nat) (l1 : Int) (m : Mem) : Option Mem :=
  if shK l0 = 11 + 10 then (
    (getI 11 47 l0 m).bind fun t1 =>
    (getR 11 43 l0 m).bind fun t2 =>
    (getI 11 44 l0 m).bind fun t3 =>
    (aldI t2 (wI (t3 - 1)) m).bind fun t4 =>
    if t1 ≤ t4 then (
      some m
    ) else (
      (getR 11 46 l0 m).bind fun t5 =>
      (getI 11 47 l0 m).bind fun t6 =>
      (aldI t5 (wI (t6 - 1)) m).bind fun t7 =>
      (X11_rank t7 m).bind fun p8 =>
      if p8 < l1 then (
        some m
      ) else (
        (getI 11 47 l0 m).bind fun t9 =>
        (putI 11 47 l0 (wI (t9 - 1)) m).bind fun m10 =>
        (getR 11 46 l0 m10).bind fun t11 =>
        (getI 11 47 l0 m10).bind fun t12 =>
        (aldI t11 t12 m10).bind fun t13 =>
        (X11_add l0 t13 0 m10).bind fun p14 =>
        X11_joins_L0 N N l0 l1 p14
      )
    )
  ) else none
-- DewBaronModel.holdsBack(I)V
def X11_holdsBack (l0 : Nat) (l1 : Int) (m : Mem) : Option Mem :=
  if shK l0 = 11 + 10 then (
    (getR 11 46 l0 m).bind fun t1 =>
    (getI 11 47 l0 m).bind fun t2 =>
    (astI t1 t2 l1 m).bind fun m3 =>
    (getI 11 47 l0 m3).bind fun t4 =>
    (putI 11 47 l0 (wI (t4 + 1)) m3).bind fun m5 =>
    some m5
  ) else none
-- DewBaronModel.goesOn()Z
def X11_goesOn_J159 (N : Nat) (l0 : Nat) (s0 : Nat) (s1 : Int) (m : Mem) : Option (Int × Mem) :=
  (X11_holdsBack s0 s1 m).bind fun p13 =>
  (X11_ahead N l0 p13).bind fun p14 =>
  (putZ 11 48 l0 0 p14).bind fun m15 =>
  (retZ 1).bind fun r16 => some (r16, m15)
def X11_goesOn_J97 (N : Nat) (l0 : Nat) (s0 : Nat) (s1 : Int) (m : Mem) : Option (Int × Mem) :=
  (X11_joins N s0 s1 m).bind fun p8 =>
  (X11_isSign l0 43 p8).bind fun p9 =>
  if p9 = 0 then (
    (X11_isSign l0 45 p8).bind fun p10 =>
    if p10 = 0 then (
      (X11_isSign l0 42 p8).bind fun p11 =>
      if p11 = 0 then (
        (X11_isSign l0 47 p8).bind fun p12 =>
        if p12 = 0 then (
          X11_goesOn_J159 N l0 l0 14 p8
        ) else (
          X11_goesOn_J159 N l0 l0 13 p8
        )
      ) else (
        X11_goesOn_J159 N l0 l0 12 p8
      )
    ) else (
      X11_goesOn_J159 N l0 l0 11 p8
    )
  ) else (
    X11_goesOn_J159 N l0 l0 10 p8
  )
def X11_goesOn_J91 (N : Nat) (l0 : Nat) (s0 : Nat) (m : Mem) : Option (Int × Mem) :=
  X11_goesOn_J97 N l0 s0 5 m
def X11_goesOn_J72 (N : Nat) (l0 : Nat) (m : Mem) : Option (Int × Mem) :=
  (X11_isSign l0 43 m).bind fun p7 =>
  if ¬ p7 = 0 then (
    X11_goesOn_J91 N l0 l0 m
  ) else (
    (X11_isSign l0 45 m).bind fun p21 =>
    if p21 = 0 then (
      X11_goesOn_J97 N l0 l0 6 m
    ) else (
      X11_goesOn_J91 N l0 l0 m
    )
  )
def X11_goesOn_J315 (N : Nat) (l0 : Nat) (m : Mem) : Option (Int × Mem) :=
  (X11_ahead N l0 m).bind fun p35 =>
  (retZ 1).bind fun r36 => some (r36, p35)
def X11_goesOn_J265 (N : Nat) (l0 : Nat) (l1 : Int) (l2 : Int) (m : Mem) : Option (Int × Mem) :=
  (getI 11 8 l0 m).bind fun t29 =>
  if t29 ≤ 0 then (
    (X11_joins N l0 1 m).bind fun p30 =>
    (getI 11 44 l0 p30).bind fun t31 =>
    (putI 11 44 l0 (wI (t31 - 1)) p30).bind fun m32 =>
    (getI 11 45 l0 m32).bind fun t33 =>
    (putI 11 45 l0 (wI (t33 - 1)) m32).bind fun m34 =>
    if ¬ l2 = 4 then (
      X11_goesOn_J315 N l0 m34
    ) else (
      (getR 11 42 l0 m34).bind fun t37 =>
      (aldI t37 l1 m34).bind fun t38 =>
      (X11_add l0 t38 0 m34).bind fun p39 =>
      X11_goesOn_J315 N l0 p39
    )
  ) else (
    (retZ 0).bind fun r41 => some (r41, m)
  )
def X11_goesOn_J215 (N : Nat) (l0 : Nat) (l1 : Int) (m : Mem) : Option (Int × Mem) :=
  (getI 11 8 l0 m).bind fun t47 =>
  if t47 ≤ 0 then (
    (X11_joins N l0 1 m).bind fun p48 =>
    (getR 11 41 l0 p48).bind fun t49 =>
    (astI t49 l1 4 p48).bind fun m50 =>
    (X11_ahead N l0 m50).bind fun p51 =>
    (putZ 11 48 l0 0 p51).bind fun m52 =>
    (retZ 1).bind fun r53 => some (r53, m52)
  ) else (
    (retZ 0).bind fun r54 => some (r54, m)
  )
def X11_goesOn (N : Nat) (l0 : Nat) (m : Mem) : Option (Int × Mem) :=
  if shK l0 = 11 + 10 then (
    (X11_lex l0 m).bind fun p1 =>
    (getI 11 8 l0 p1).bind fun t2 =>
    if t2 ≤ 0 then (
      (getI 11 44 l0 p1).bind fun t3 =>
      (getR 11 41 l0 p1).bind fun t4 =>
      (aldI t4 (wI (t3 - 1)) p1).bind fun t5 =>
      (X11_isSign l0 43 p1).bind fun p6 =>
      if ¬ p6 = 0 then (
        X11_goesOn_J72 N l0 p1
      ) else (
        (X11_isSign l0 45 p1).bind fun p24 =>
        if ¬ p24 = 0 then (
          X11_goesOn_J72 N l0 p1
        ) else (
          (X11_isSign l0 42 p1).bind fun p25 =>
          if ¬ p25 = 0 then (
            X11_goesOn_J72 N l0 p1
          ) else (
            (X11_isSign l0 47 p1).bind fun p26 =>
            if ¬ p26 = 0 then (
              X11_goesOn_J72 N l0 p1
            ) else (
              (X11_isSign l0 37 p1).bind fun p27 =>
              if p27 = 0 then (
                if 2 ≤ t5 then (
                  if ¬ t5 = 3 then (
                    (X11_isSign l0 41 p1).bind fun p28 =>
                    if ¬ p28 = 0 then (
                      X11_goesOn_J265 N l0 (wI (t3 - 1)) t5 p1
                    ) else (
                      (getI 11 4 l0 p1).bind fun t43 =>
                      (X11_blame l0 1 t43 p1).bind fun p44 =>
                      X11_goesOn_J265 N l0 (wI (t3 - 1)) t5 p44
                    )
                  ) else (
                    (X11_isSign l0 44 p1).bind fun p46 =>
                    if ¬ p46 = 0 then (
                      X11_goesOn_J215 N l0 (wI (t3 - 1)) p1
                    ) else (
                      (getI 11 4 l0 p1).bind fun t56 =>
                      (X11_blame l0 1 t56 p1).bind fun p57 =>
                      X11_goesOn_J215 N l0 (wI (t3 - 1)) p57
                    )
                  )
                ) else (
                  (getI 11 8 l0 p1).bind fun t60 =>
                  if ¬ t60 = 0 then (
                    (retZ 0).bind fun r61 => some (r61, p1)
                  ) else (
                    (X11_joins N l0 1 p1).bind fun p62 =>
                    (retZ 0).bind fun r63 => some (r63, p62)
                  )
                )
              ) else (
                X11_goesOn_J72 N l0 p1
              )
            )
          )
        )
      )
    ) else (
      (retZ 0).bind fun r71 => some (r71, p1)
    )
  ) else none
-- DewBaronModel.reads()V
def X11_reads_J78 (N : Nat) (r35 : Nat → Int → Mem → Option Mem) (l0 : Nat) (s0 : Int) (m : Mem) : Option Mem :=
  r35 l0 s0 m
def X11_reads_J77 (N : Nat) (r35 : Nat → Int → Mem → Option Mem) (l0 : Nat) (m : Mem) : Option Mem :=
  X11_reads_J78 N r35 l0 0 m
def X11_reads_J62 (N : Nat) (r35 : Nat → Int → Mem → Option Mem) (l0 : Nat) (l1 : Int) (m : Mem) : Option Mem :=
  if l1 = 0 then (
    X11_reads_J77 N r35 l0 m
  ) else (
    (getI 11 8 l0 m).bind fun t9 =>
    if ¬ t9 = 0 then (
      X11_reads_J77 N r35 l0 m
    ) else (
      X11_reads_J78 N r35 l0 1 m
    )
  )
def X11_reads_L35_b (N : Nat) (r35 : Nat → Int → Mem → Option Mem) (l0 : Nat) (l1 : Int) (m : Mem) : Option Mem :=
  if l1 = 0 then (
    some m
  ) else (
    (getI 11 48 l0 m).bind fun t7 =>
    if ¬ t7 = 0 then (
      (X11_goesOn N l0 m).bind fun p8 =>
      X11_reads_J62 N r35 l0 p8.1 p8.2
    ) else (
      (X11_operand N l0 m).bind fun p12 =>
      (putZ 11 48 l0 p12.1 p12.2).bind fun m13 =>
      X11_reads_J62 N r35 l0 l1 m13
    )
  )
def X11_reads_L35 (N : Nat) : Nat → Nat → Int → Mem → Option Mem
  | 0 => fun _ _ _ => none
  | f + 1 => X11_reads_L35_b N (X11_reads_L35 N f)
def X11_reads (N : Nat) (l0 : Nat) (m : Mem) : Option Mem :=
  if shK l0 = 11 + 10 then (
    (getI 11 8 l0 m).bind fun t1 =>
    if t1 ≤ 0 then (
      (putI 11 44 l0 0 m).bind fun m2 =>
      (putI 11 45 l0 0 m2).bind fun m3 =>
      (putI 11 47 l0 0 m3).bind fun m4 =>
      (putZ 11 48 l0 0 m4).bind fun m5 =>
      (X11_pushes l0 0 m5).bind fun p6 =>
      X11_reads_L35 N N l0 1 p6
    ) else (
      some m
    )
  ) else none
-- DewBaronModel.dewing()V
def X11_dewing_J19 (N : Nat) (l0 : Nat) (s0 : Nat) (s1 : Int) (m : Mem) : Option Mem :=
  (X11_counts N s0 s1 m).bind fun p4 =>
  if ¬ p4.1 = 0 then (
    (getR 11 28 l0 p4.2).bind fun t5 =>
    (getI 11 40 l0 p4.2).bind fun t6 =>
    (getI 11 39 l0 p4.2).bind fun t7 =>
    (astI t5 t6 t7 p4.2).bind fun m8 =>
    (X11_reads N l0 m8).bind fun p9 =>
    (getR 11 29 l0 p9).bind fun t10 =>
    (getI 11 40 l0 p9).bind fun t11 =>
    (getI 11 39 l0 p9).bind fun t12 =>
    (astI t10 t11 t12 p9).bind fun m13 =>
    some m13
  ) else (
    some p4.2
  )
def X11_dewing (N : Nat) (l0 : Nat) (m : Mem) : Option Mem :=
  if shK l0 = 11 + 10 then (
    (getR 11 28 l0 m).bind fun t1 =>
    (getI 11 40 l0 m).bind fun t2 =>
    (aldI t1 t2 m).bind fun t3 =>
    if t3 = (-1) then (
      X11_dewing_J19 N l0 l0 0 m
    ) else (
      X11_dewing_J19 N l0 l0 1 m
    )
  ) else none
-- DewBaronModel.down(II)I
def X11_down_J34 (N : Nat) (m : Mem) : Option (Int × Mem) :=
  some ((-1000000000), m)
def X11_down (N : Nat) (l0 : Nat) (l1 : Int) (l2 : Int) (m : Mem) : Option (Int × Mem) :=
  if shK l0 = 11 + 10 then (
    (X11_isCell l0 l1 m).bind fun p1 =>
    if p1 = 0 then (
      X11_down_J34 N m
    ) else (
      (X11_isWall l0 0 l1 m).bind fun p2 =>
      if p2 = 0 then (
        X11_down_J34 N m
      ) else (
        (X11_isCistern l0 l2 m).bind fun p3 =>
        if p3 = 0 then (
          X11_down_J34 N m
        ) else (
          (X11_without N l0 l1 l2 m).bind fun p4 =>
          some (p4.1, p4.2)
        )
      )
    )
  ) else none
-- DewBaronModel.draw(I)I
def X11_draw (l0 : Nat) (l1 : Int) (m : Mem) : Option (Int × Mem) :=
  if shK l0 = 11 + 10 then (
    (getI 11 56 l0 m).bind fun t1 =>
    (putI 11 56 l0 (wL (Int.tmod (wL ((wL (1103515245 * t1)) + 12345)) 2147483648)) m).bind fun m2 =>
    (getI 11 56 l0 m2).bind fun t3 =>
    if l1 = 0 then none else
    some ((wI (wL (Int.tmod (wL (Int.tdiv t3 64)) l1))), m2)
  ) else none
-- DewBaronModel.drying()V
def X11_drying_J19 (N : Nat) (l0 : Nat) (s0 : Nat) (s1 : Int) (m : Mem) : Option Mem :=
  (X11_counts N s0 s1 m).bind fun p4 =>
  if ¬ p4.1 = 0 then (
    (getR 11 30 l0 p4.2).bind fun t5 =>
    (getI 11 40 l0 p4.2).bind fun t6 =>
    (getI 11 39 l0 p4.2).bind fun t7 =>
    (astI t5 t6 t7 p4.2).bind fun m8 =>
    (X11_reads N l0 m8).bind fun p9 =>
    (getR 11 31 l0 p9).bind fun t10 =>
    (getI 11 40 l0 p9).bind fun t11 =>
    (getI 11 39 l0 p9).bind fun t12 =>
    (astI t10 t11 t12 p9).bind fun m13 =>
    some m13
  ) else (
    some p4.2
  )
def X11_drying (N : Nat) (l0 : Nat) (m : Mem) : Option Mem :=
  if shK l0 = 11 + 10 then (
    (getR 11 30 l0 m).bind fun t1 =>
    (getI 11 40 l0 m).bind fun t2 =>
    (aldI t1 t2 m).bind fun t3 =>
    if t3 = (-1) then (
      X11_drying_J19 N l0 l0 0 m
    ) else (
      X11_drying_J19 N l0 l0 1 m
    )
  ) else none
-- DewBaronModel.refuses(I)I
def X11_refuses (l0 : Nat) (l1 : Int) (m : Mem) : Option (Int × Mem) :=
  if shK l0 = 11 + 10 then (
    (getR 11 49 l0 m).bind fun t1 =>
    (aldI t1 l1 m).bind fun t2 =>
    (astI t1 l1 (wI (t2 + 1)) m).bind fun m3 =>
    some ((-1), m3)
  ) else none
-- DewBaronModel.end(I)Z
def X11_end_J12 (l0 : Nat) (m : Mem) : Option (Int × Mem) :=
  (X11_refuses l0 0 m).bind fun p1 =>
  if p1.1 < 0 then (
    (retZ 0).bind fun r2 => some (r2, p1.2)
  ) else (
    (retZ 1).bind fun r3 => some (r3, p1.2)
  )
def X11_end (l0 : Nat) (l1 : Int) (m : Mem) : Option (Int × Mem) :=
  if shK l0 = 11 + 10 then (
    if l1 < 0 then (
      X11_end_J12 l0 m
    ) else (
      (getI 11 1 l0 m).bind fun t5 =>
      if l1 ≤ t5 then (
        (putI 11 1 l0 l1 m).bind fun m6 =>
        (retZ 1).bind fun r7 => some (r7, m6)
      ) else (
        X11_end_J12 l0 m
      )
    )
  ) else none
-- DewBaronModel.fault(I)I
def X11_fault (l0 : Nat) (l1 : Int) (m : Mem) : Option Int :=
  if shK l0 = 11 + 10 then (
    if ¬ l1 = 0 then (
      if ¬ l1 = 1 then (
        some (-1)
      ) else (
        (getI 11 11 l0 m).bind fun t1 =>
        some t1
      )
    ) else (
      (getI 11 10 l0 m).bind fun t3 =>
      some t3
    )
  ) else none
-- DewBaronModel.put(I)V
def X11_put_L3_b (N : Nat) (r3 : Nat → Int → Int → Mem → Option Mem) (l0 : Nat) (l1 : Int) (l2 : Int) (m : Mem) : Option Mem :=
  if l2 < 0 then (
    some m
  ) else (
    (getR 11 0 l0 m).bind fun t1 =>
    (getI 11 1 l0 m).bind fun t2 =>
    (astI t1 t2 (iand (ishr l1 l2) 255) m).bind fun m3 =>
    (getI 11 1 l0 m3).bind fun t4 =>
    (putI 11 1 l0 (wI (t4 + 1)) m3).bind fun m5 =>
    r3 l0 l1 (wI (l2 + (-8))) m5
  )
def X11_put_L3 (N : Nat) : Nat → Nat → Int → Int → Mem → Option Mem
  | 0 => fun _ _ _ _ => none
  | f + 1 => X11_put_L3_b N (X11_put_L3 N f)
def X11_put (N : Nat) (l0 : Nat) (l1 : Int) (m : Mem) : Option Mem :=
  if shK l0 = 11 + 10 then (
    X11_put_L3 N N l0 l1 24 m
  ) else none
-- DewBaronModel.feed(IIIII)I
def X11_feed (N : Nat) (l0 : Nat) (l1 : Int) (l2 : Int) (l3 : Int) (l4 : Int) (l5 : Int) (m : Mem) : Option (Int × Mem) :=
  if shK l0 = 11 + 10 then (
    (getI 11 1 l0 m).bind fun t1 =>
    if (wI (t1 + 20)) ≤ 1600 then (
      (X11_put N l0 l1 m).bind fun p2 =>
      (X11_put N l0 l2 p2).bind fun p3 =>
      (X11_put N l0 l3 p3).bind fun p4 =>
      (X11_put N l0 l4 p4).bind fun p5 =>
      (X11_put N l0 l5 p5).bind fun p6 =>
      (getI 11 1 l0 p6).bind fun t7 =>
      some (t7, p6)
    ) else (
      (X11_refuses l0 0 m).bind fun p8 =>
      some (p8.1, p8.2)
    )
  ) else none
-- DewBaronModel.fills()I
def X11_fills_J105 (N : Nat) (r4 : Nat → Int → Int → Mem → Option (Int × Mem)) (l0 : Nat) (l1 : Int) (l2 : Int) (s0 : Nat) (s1 : Int) (s2 : Int) (m : Mem) : Option (Int × Mem) :=
  (astI s0 s1 s2 m).bind fun m22 =>
  r4 l0 l1 (wI (l2 + 1)) m22
def X11_fills_J61 (N : Nat) (r4 : Nat → Int → Int → Mem → Option (Int × Mem)) (l0 : Nat) (l1 : Int) (l2 : Int) (s0 : Nat) (s1 : Int) (s2 : Int) (m : Mem) : Option (Int × Mem) :=
  (astI s0 s1 s2 m).bind fun m10 =>
  (getR 11 53 l0 m10).bind fun t11 =>
  (getR 11 53 l0 m10).bind fun t12 =>
  (aldI t12 l2 m10).bind fun t13 =>
  (getR 11 32 l0 m10).bind fun t14 =>
  (getI 11 13 l0 m10).bind fun t15 =>
  (aldI t14 t15 m10).bind fun t16 =>
  if t16 ≤ t13 then (
    (getR 11 53 l0 m10).bind fun t17 =>
    (aldI t17 l2 m10).bind fun t18 =>
    (getR 11 32 l0 m10).bind fun t19 =>
    (getI 11 13 l0 m10).bind fun t20 =>
    (aldI t19 t20 m10).bind fun t21 =>
    X11_fills_J105 N r4 l0 l1 l2 t11 l2 (wI (t18 - t21)) m10
  ) else (
    X11_fills_J105 N r4 l0 l1 l2 t11 l2 0 m10
  )
def X11_fills_L4_b (N : Nat) (k112 : Nat → Int → Mem → Option (Int × Mem)) (r4 : Nat → Int → Int → Mem → Option (Int × Mem)) (l0 : Nat) (l1 : Int) (l2 : Int) (m : Mem) : Option (Int × Mem) :=
  (getR 11 21 l0 m).bind fun t1 =>
  (getI 11 13 l0 m).bind fun t2 =>
  (aldI t1 t2 m).bind fun t3 =>
  if t3 ≤ l2 then (
    k112 l0 l1 m
  ) else (
    (X11_comes N l0 0 l2 m).bind fun p4 =>
    (getR 11 53 l0 m).bind fun t5 =>
    (getR 11 53 l0 m).bind fun t6 =>
    (aldI t6 l2 m).bind fun t7 =>
    if (wI (t7 + p4)) ≤ 9999 then (
      (getR 11 53 l0 m).bind fun t8 =>
      (aldI t8 l2 m).bind fun t9 =>
      X11_fills_J61 N r4 l0 (wI (l1 + p4)) l2 t5 l2 (wI (t9 + p4)) m
    ) else (
      X11_fills_J61 N r4 l0 (wI (l1 + p4)) l2 t5 l2 9999 m
    )
  )
def X11_fills_L4 (N : Nat) (k112 : Nat → Int → Mem → Option (Int × Mem)) : Nat → Nat → Int → Int → Mem → Option (Int × Mem)
  | 0 => fun _ _ _ _ => none
  | f + 1 => X11_fills_L4_b N k112 (X11_fills_L4 N k112 f)
def X11_fills (N : Nat) (l0 : Nat) (m : Mem) : Option (Int × Mem) :=
  if shK l0 = 11 + 10 then (
    X11_fills_L4 N (fun z26 z27 m28 =>
        (getR 11 50 z26 m28).bind fun t29 =>
        (aldI t29 0 m28).bind fun t30 =>
        (astI t29 0 (wI (t30 + 1)) m28).bind fun m31 =>
        some (z27, m31)) N l0 0 0 m
  ) else none
-- DewBaronModel.findsFirst(I)V
def X11_findsFirst_L2_b (N : Nat) (k16 : Nat → Int → Int → Mem → Option Mem) (r2 : Nat → Int → Int → Mem → Option Mem) (l0 : Nat) (l1 : Int) (l2 : Int) (m : Mem) : Option Mem :=
  (X11_canBegin l0 l2 m).bind fun p1 =>
  if ¬ p1 = 0 then (
    k16 l0 l1 l2 m
  ) else (
    r2 l0 l1 (wI (l2 + 1)) m
  )
def X11_findsFirst_L2 (N : Nat) (k16 : Nat → Int → Int → Mem → Option Mem) : Nat → Nat → Int → Int → Mem → Option Mem
  | 0 => fun _ _ _ _ => none
  | f + 1 => X11_findsFirst_L2_b N k16 (X11_findsFirst_L2 N k16 f)
def X11_findsFirst_J94 (N : Nat) (r44 : Nat → Int → Int → Int → Int → Int → Mem → Option Mem) (l0 : Nat) (l1 : Int) (l2 : Int) (l3 : Int) (l4 : Int) (l5 : Int) (m : Mem) : Option Mem :=
  r44 l0 l1 l2 l3 l4 (wI (l5 + 1)) m
def X11_findsFirst_L44_b (N : Nat) (r35 : Nat → Int → Int → Int → Int → Mem → Option Mem) (r44 : Nat → Int → Int → Int → Int → Int → Mem → Option Mem) (l0 : Nat) (l1 : Int) (l2 : Int) (l3 : Int) (l4 : Int) (l5 : Int) (m : Mem) : Option Mem :=
  if (iand (ishr l3 l5) 1) = 1 then (
    X11_findsFirst_J94 N r44 l0 l1 l2 l3 l4 l5 m
  ) else (
    (getR 11 74 l0 m).bind fun t11 =>
    (aldI t11 l2 m).bind fun t12 =>
    (getR 11 74 l0 m).bind fun t13 =>
    (aldI t13 l5 m).bind fun t14 =>
    (X11_isStep l0 t12 t14 m).bind fun p15 =>
    if p15 = 0 then (
      X11_findsFirst_J94 N r44 l0 l1 l2 l3 l4 l5 m
    ) else (
      (getR 11 75 l0 m).bind fun t16 =>
      (aldI t16 (wI ((wI (10 * (ior l3 (ishl 1 l5)))) + l5)) m).bind fun t17 =>
      if ¬ t17 = 0 then (
        (getR 11 73 l0 m).bind fun t18 =>
        (getR 11 74 l0 m).bind fun t19 =>
        (aldI t19 l5 m).bind fun t20 =>
        (astI t18 l4 t20 m).bind fun m21 =>
        r35 l0 l1 l5 (ior l3 (ishl 1 l5)) (wI (l4 + 1)) m21
      ) else (
        X11_findsFirst_J94 N r44 l0 l1 l2 l3 l4 l5 m
      )
    )
  )
def X11_findsFirst_L44 (N : Nat) (r35 : Nat → Int → Int → Int → Int → Mem → Option Mem) : Nat → Nat → Int → Int → Int → Int → Int → Mem → Option Mem
  | 0 => fun _ _ _ _ _ _ _ => none
  | f + 1 => X11_findsFirst_L44_b N r35 (X11_findsFirst_L44 N r35 f)
def X11_findsFirst_L35_b (N : Nat) (r35 : Nat → Int → Int → Int → Int → Mem → Option Mem) (l0 : Nat) (l1 : Int) (l2 : Int) (l3 : Int) (l4 : Int) (m : Mem) : Option Mem :=
  if l1 ≤ l4 then (
    some m
  ) else (
    X11_findsFirst_L44 N r35 N l0 l1 l2 l3 l4 0 m
  )
def X11_findsFirst_L35 (N : Nat) : Nat → Nat → Int → Int → Int → Int → Mem → Option Mem
  | 0 => fun _ _ _ _ _ _ => none
  | f + 1 => X11_findsFirst_L35_b N (X11_findsFirst_L35 N f)
def X11_findsFirst (N : Nat) (l0 : Nat) (l1 : Int) (m : Mem) : Option Mem :=
  if shK l0 = 11 + 10 then (
    X11_findsFirst_L2 N (fun z3 z4 z5 m6 =>
        (getR 11 73 z3 m6).bind fun t7 =>
        (getR 11 74 z3 m6).bind fun t8 =>
        (aldI t8 z5 m6).bind fun t9 =>
        (astI t7 0 t9 m6).bind fun m10 =>
        X11_findsFirst_L35 N N z3 z4 z5 (ishl 1 z5) 1 m10) N l0 l1 0 m
  ) else none
-- DewBaronModel.must(I)V
def X11_must_J21 (N : Nat) (l0 : Nat) (m : Mem) : Option Mem :=
  (getI 11 8 l0 m).bind fun t3 =>
  if ¬ t3 = 0 then (
    some m
  ) else (
    (X11_ahead N l0 m).bind fun p4 =>
    some p4
  )
def X11_must (N : Nat) (l0 : Nat) (l1 : Int) (m : Mem) : Option Mem :=
  if shK l0 = 11 + 10 then (
    (X11_lex l0 m).bind fun p1 =>
    (X11_isSign l0 l1 p1).bind fun p2 =>
    if ¬ p2 = 0 then (
      X11_must_J21 N l0 p1
    ) else (
      (getI 11 4 l0 p1).bind fun t6 =>
      (X11_blame l0 1 t6 p1).bind fun p7 =>
      X11_must_J21 N l0 p7
    )
  ) else none
-- DewBaronModel.finishes(I)V
def X11_finishes_J47 (N : Nat) (r17 : Nat → Int → Int → Mem → Option Mem) (l0 : Nat) (l1 : Int) (l2 : Int) (m : Mem) : Option Mem :=
  r17 l0 l1 (wI (l2 + 1)) m
def X11_finishes_L17_b (N : Nat) (k53 : Nat → Int → Int → Mem → Option Mem) (r17 : Nat → Int → Int → Mem → Option Mem) (l0 : Nat) (l1 : Int) (l2 : Int) (m : Mem) : Option Mem :=
  (getI 11 2 l0 m).bind fun t4 =>
  if t4 ≤ l2 then (
    k53 l0 l1 l2 m
  ) else (
    (getR 11 0 l0 m).bind fun t5 =>
    (aldI t5 l2 m).bind fun t6 =>
    if t6 = 32 then (
      X11_finishes_J47 N r17 l0 l1 l2 m
    ) else (
      (getR 11 0 l0 m).bind fun t7 =>
      (aldI t7 l2 m).bind fun t8 =>
      if ¬ t8 = 10 then (
        k53 l0 l1 l2 m
      ) else (
        X11_finishes_J47 N r17 l0 l1 l2 m
      )
    )
  )
def X11_finishes_L17 (N : Nat) (k53 : Nat → Int → Int → Mem → Option Mem) : Nat → Nat → Int → Int → Mem → Option Mem
  | 0 => fun _ _ _ _ => none
  | f + 1 => X11_finishes_L17_b N k53 (X11_finishes_L17 N k53 f)
def X11_finishes_J83 (N : Nat) (l0 : Nat) (m : Mem) : Option Mem :=
  (X11_must N l0 59 m).bind fun p17 =>
  some p17
def X11_finishes (N : Nat) (l0 : Nat) (l1 : Int) (m : Mem) : Option Mem :=
  if shK l0 = 11 + 10 then (
    (X11_lex l0 m).bind fun p1 =>
    (getI 11 8 l0 p1).bind fun t2 =>
    if t2 ≤ 0 then (
      (getI 11 5 l0 p1).bind fun t3 =>
      X11_finishes_L17 N (fun z12 z13 z14 m15 =>
          (X11_isSign z12 59 m15).bind fun p16 =>
          if p16 = 0 then (
            X11_finishes_J83 N z12 m15
          ) else (
            if ¬ z13 = 80 then (
              X11_finishes_J83 N z12 m15
            ) else (
              (getI 11 2 z12 m15).bind fun t18 =>
              if t18 ≤ z14 then (
                X11_finishes_J83 N z12 m15
              ) else (
                (X11_blame z12 6 z14 m15).bind fun p19 =>
                X11_finishes_J83 N z12 p19
              )
            )
          )) N l0 l1 t3 p1
    ) else (
      some p1
    )
  ) else none
-- DewBaronModel.gotBy(I)I
def X11_gotBy_J78 (N : Nat) (r4 : Nat → Int → Int → Int → Option Int) (l0 : Nat) (l1 : Int) (l3 : Int) (s0 : Int) (s1 : Int) (m : Mem) : Option Int :=
  r4 l0 l1 (wI (s0 + s1)) (wI (l3 + 1))
def X11_gotBy_J63 (N : Nat) (r4 : Nat → Int → Int → Int → Option Int) (l0 : Nat) (l1 : Int) (l2 : Int) (l3 : Int) (s0 : Int) (s1 : Int) (m : Mem) : Option Int :=
  if 0 ≤ (wI (s0 - s1)) then (
    X11_gotBy_J78 N r4 l0 l1 l3 l2 (wI (s0 - s1)) m
  ) else (
    X11_gotBy_J78 N r4 l0 l1 l3 l2 0 m
  )
def X11_gotBy_L4_b (N : Nat) (m : Mem) (r4 : Nat → Int → Int → Int → Option Int) (l0 : Nat) (l1 : Int) (l2 : Int) (l3 : Int) : Option Int :=
  if l1 ≤ l3 then (
    some l2
  ) else (
    (getR 11 67 l0 m).bind fun t1 =>
    (aldI t1 l3 m).bind fun t2 =>
    (X11_cloth N l0 t2 m).bind fun p3 =>
    (getR 11 34 l0 m).bind fun t4 =>
    (getI 11 13 l0 m).bind fun t5 =>
    (aldI t4 t5 m).bind fun t6 =>
    (getR 11 52 l0 m).bind fun t7 =>
    (aldI t7 p3 m).bind fun t8 =>
    (X11_sunOf N l0 t8 m).bind fun p9 =>
    (X11_dawnOf l0 p3 m).bind fun p10 =>
    if 0 ≤ (wI ((wI (l3 * t6)) - p9)) then (
      X11_gotBy_J63 N r4 l0 l1 l2 l3 p10 (wI ((wI (l3 * t6)) - p9)) m
    ) else (
      X11_gotBy_J63 N r4 l0 l1 l2 l3 p10 0 m
    )
  )
def X11_gotBy_L4 (N : Nat) (m : Mem) : Nat → Nat → Int → Int → Int → Option Int
  | 0 => fun _ _ _ _ => none
  | f + 1 => X11_gotBy_L4_b N m (X11_gotBy_L4 N m f)
def X11_gotBy (N : Nat) (l0 : Nat) (l1 : Int) (m : Mem) : Option Int :=
  if shK l0 = 11 + 10 then (
    X11_gotBy_L4 N m N l0 l1 0 0
  ) else none
-- DewBaronModel.ring(I)I
def X11_ring (l0 : Nat) (l1 : Int) (m : Mem) : Option Int :=
  if shK l0 = 11 + 10 then (
    (getI 11 54 l0 m).bind fun t1 =>
    some (wI (2 + (wI (Int.tmod (wI (t1 + l1)) 20))))
  ) else none
-- DewBaronModel.keeps()V
def X11_keeps_J32 (N : Nat) (l0 : Nat) (m : Mem) : Option Mem :=
  (getI 11 55 l0 m).bind fun t2 =>
  (X11_ring l0 t2 m).bind fun p3 =>
  (X11_copies N l0 p3 0 m).bind fun p4 =>
  (getI 11 55 l0 p4).bind fun t5 =>
  (putI 11 55 l0 (wI (t5 + 1)) p4).bind fun m6 =>
  some m6
def X11_keeps (N : Nat) (l0 : Nat) (m : Mem) : Option Mem :=
  if shK l0 = 11 + 10 then (
    (getI 11 55 l0 m).bind fun t1 =>
    if ¬ t1 = 20 then (
      X11_keeps_J32 N l0 m
    ) else (
      (getI 11 54 l0 m).bind fun t7 =>
      (putI 11 54 l0 (wI (Int.tmod (wI (t7 + 1)) 20)) m).bind fun m8 =>
      (getI 11 55 l0 m8).bind fun t9 =>
      (putI 11 55 l0 (wI (t9 - 1)) m8).bind fun m10 =>
      X11_keeps_J32 N l0 m10
    )
  ) else none
-- DewBaronModel.hang(II)Z
def X11_hang_J35 (N : Nat) (l0 : Nat) (l1 : Int) (l2 : Int) (s0 : Int) (m : Mem) : Option (Int × Mem) :=
  if ¬ s0 = 0 then (
    (X11_keeps N l0 m).bind fun p3 =>
    (getR 11 52 l0 p3).bind fun t4 =>
    (X11_cloth N l0 l1 p3).bind fun p5 =>
    (astI t4 p5 l2 p3).bind fun m6 =>
    (retZ 1).bind fun r7 => some (r7, m6)
  ) else (
    (X11_refuses l0 2 m).bind fun p8 =>
    if p8.1 < 0 then (
      (retZ 0).bind fun r9 => some (r9, p8.2)
    ) else (
      (retZ 1).bind fun r10 => some (r10, p8.2)
    )
  )
def X11_hang_J34 (N : Nat) (l0 : Nat) (l1 : Int) (l2 : Int) (m : Mem) : Option (Int × Mem) :=
  X11_hang_J35 N l0 l1 l2 0 m
def X11_hang (N : Nat) (l0 : Nat) (l1 : Int) (l2 : Int) (m : Mem) : Option (Int × Mem) :=
  if shK l0 = 11 + 10 then (
    (X11_cloths N l0 m).bind fun p1 =>
    (X11_is l1 0 (wI (p1 - 1)) m).bind fun p2 =>
    if p2 = 0 then (
      X11_hang_J34 N l0 l1 l2 m
    ) else (
      (X11_isCell l0 l2 m).bind fun p13 =>
      if p13 = 0 then (
        X11_hang_J34 N l0 l1 l2 m
      ) else (
        (X11_isFree N l0 l2 m).bind fun p14 =>
        if p14 = 0 then (
          X11_hang_J34 N l0 l1 l2 m
        ) else (
          X11_hang_J35 N l0 l1 l2 1 m
        )
      )
    )
  ) else none
-- DewBaronModel.has(I)I
def X11_has_L90_b (N : Nat) (m : Mem) (r90 : Nat → Int → Int → Option Int) (l0 : Nat) (l2 : Int) (l3 : Int) : Option Int :=
  (X11_cells l0 m).bind fun p9 =>
  if p9 ≤ l3 then (
    some l2
  ) else (
    (getR 11 51 l0 m).bind fun t10 =>
    (aldI t10 l3 m).bind fun t11 =>
    r90 l0 (wI (l2 + t11)) (wI (l3 + 1))
  )
def X11_has_L90 (N : Nat) (m : Mem) : Nat → Nat → Int → Int → Option Int
  | 0 => fun _ _ _ => none
  | f + 1 => X11_has_L90_b N m (X11_has_L90 N m f)
def X11_has (N : Nat) (l0 : Nat) (l1 : Int) (m : Mem) : Option Int :=
  if shK l0 = 11 + 10 then (
    if l1 = 0 then (
      (getR 11 14 l0 m).bind fun t1 =>
      (getI 11 13 l0 m).bind fun t2 =>
      (aldI t1 t2 m).bind fun t3 =>
      some t3
    ) else
    if l1 = 1 then (
      (getR 11 15 l0 m).bind fun t5 =>
      (getI 11 13 l0 m).bind fun t6 =>
      (aldI t5 t6 m).bind fun t7 =>
      some t7
    ) else
    if l1 = 2 then (
      X11_has_L90 N m N l0 0 0
    ) else
    if l1 = 3 then (
      (getR 11 20 l0 m).bind fun t14 =>
      (getI 11 13 l0 m).bind fun t15 =>
      (aldI t14 t15 m).bind fun t16 =>
      some t16
    ) else
    if l1 = 4 then (
      (getR 11 21 l0 m).bind fun t18 =>
      (getI 11 13 l0 m).bind fun t19 =>
      (aldI t18 t19 m).bind fun t20 =>
      some t20
    ) else
    if l1 = 5 then (
      (getR 11 23 l0 m).bind fun t22 =>
      (getI 11 13 l0 m).bind fun t23 =>
      (aldI t22 t23 m).bind fun t24 =>
      some t24
    ) else
    if l1 = 6 then (
      (X11_cloths N l0 m).bind fun p26 =>
      some p26
    ) else
    if l1 = 7 then (
      (getR 11 32 l0 m).bind fun t28 =>
      (getI 11 13 l0 m).bind fun t29 =>
      (aldI t28 t29 m).bind fun t30 =>
      some t30
    ) else
    if l1 = 8 then (
      (getR 11 33 l0 m).bind fun t32 =>
      (getI 11 13 l0 m).bind fun t33 =>
      (aldI t32 t33 m).bind fun t34 =>
      some t34
    ) else
    if l1 = 9 then (
      (getR 11 34 l0 m).bind fun t36 =>
      (getI 11 13 l0 m).bind fun t37 =>
      (aldI t36 t37 m).bind fun t38 =>
      some t38
    ) else
    if l1 = 10 then (
      (getR 11 50 l0 m).bind fun t40 =>
      (aldI t40 0 m).bind fun t41 =>
      some t41
    ) else
    if l1 = 11 then (
      (getI 11 55 l0 m).bind fun t43 =>
      some t43
    ) else
    if l1 = 12 then (
      (getI 11 56 l0 m).bind fun t45 =>
      some (wI t45)
    ) else
    some (-1)
  ) else none
-- DewBaronModel.heighten()V
def X11_heighten (N : Nat) (l0 : Nat) (m : Mem) : Option Mem :=
  if shK l0 = 11 + 10 then (
    (X11_counts N l0 0 m).bind fun p1 =>
    if ¬ p1.1 = 0 then (
      (X11_number N l0 0 9 p1.2).bind fun p2 =>
      (X11_cellAt N l0 0 p2.2).bind fun p3 =>
      (getI 11 8 l0 p3.2).bind fun t4 =>
      if ¬ t4 = 0 then (
        some p3.2
      ) else (
        (getR 11 16 l0 p3.2).bind fun t5 =>
        (getI 11 40 l0 p3.2).bind fun t6 =>
        (astI t5 (wI ((wI (42 * t6)) + p3.1)) p2.1 p3.2).bind fun m7 =>
        some m7
      )
    ) else (
      some p1.2
    )
  ) else none
-- DewBaronModel.housing()V
def X11_housing_J20 (N : Nat) (l0 : Nat) (s0 : Nat) (s1 : Int) (m : Mem) : Option Mem :=
  (X11_counts N s0 s1 m).bind fun p4 =>
  if ¬ p4.1 = 0 then (
    (X11_cellAt N l0 1 p4.2).bind fun p5 =>
    (getI 11 8 l0 p5.2).bind fun t6 =>
    if t6 ≤ 0 then (
      (getR 11 18 l0 p5.2).bind fun t7 =>
      (getI 11 40 l0 p5.2).bind fun t8 =>
      (astI t7 (wI ((wI (42 * t8)) + p5.1)) 1 p5.2).bind fun m9 =>
      (getR 11 20 l0 m9).bind fun t10 =>
      (getI 11 40 l0 m9).bind fun t11 =>
      (aldI t10 t11 m9).bind fun t12 =>
      (astI t10 t11 (wI (t12 + 1)) m9).bind fun m13 =>
      some m13
    ) else (
      some p5.2
    )
  ) else (
    some p4.2
  )
def X11_housing (N : Nat) (l0 : Nat) (m : Mem) : Option Mem :=
  if shK l0 = 11 + 10 then (
    (getR 11 20 l0 m).bind fun t1 =>
    (getI 11 40 l0 m).bind fun t2 =>
    (aldI t1 t2 m).bind fun t3 =>
    if ¬ t3 = 6 then (
      X11_housing_J20 N l0 l0 0 m
    ) else (
      X11_housing_J20 N l0 l0 1 m
    )
  ) else none
-- DewBaronModel.writes(I)V
def X11_writes (l0 : Nat) (l1 : Int) (m : Mem) : Option Mem :=
  if shK l0 = 11 + 10 then (
    (getR 11 76 l0 m).bind fun t1 =>
    (getI 11 77 l0 m).bind fun t2 =>
    (astI t1 t2 (iand l1 255) m).bind fun m3 =>
    (getI 11 77 l0 m3).bind fun t4 =>
    (putI 11 77 l0 (wI (t4 + 1)) m3).bind fun m5 =>
    some m5
  ) else none
-- DewBaronModel.image()I
def X11_image_L30_b (N : Nat) (k54 : Nat → Mem → Option (Int × Mem)) (r30 : Nat → Int → Mem → Option (Int × Mem)) (l0 : Nat) (l1 : Int) (m : Mem) : Option (Int × Mem) :=
  (X11_cells l0 m).bind fun p8 =>
  if p8 ≤ l1 then (
    k54 l0 m
  ) else (
    (getR 11 51 l0 m).bind fun t9 =>
    (aldI t9 l1 m).bind fun t10 =>
    (X11_writes l0 t10 m).bind fun p11 =>
    r30 l0 (wI (l1 + 1)) p11
  )
def X11_image_L30 (N : Nat) (k54 : Nat → Mem → Option (Int × Mem)) : Nat → Nat → Int → Mem → Option (Int × Mem)
  | 0 => fun _ _ _ => none
  | f + 1 => X11_image_L30_b N k54 (X11_image_L30 N k54 f)
def X11_image_L56_b (N : Nat) (k84 : Nat → Mem → Option (Int × Mem)) (r56 : Nat → Int → Mem → Option (Int × Mem)) (l0 : Nat) (l1 : Int) (m : Mem) : Option (Int × Mem) :=
  (X11_cloths N l0 m).bind fun p15 =>
  if p15 ≤ l1 then (
    k84 l0 m
  ) else (
    (getR 11 52 l0 m).bind fun t16 =>
    (X11_cloth N l0 l1 m).bind fun p17 =>
    (aldI t16 p17 m).bind fun t18 =>
    (X11_writes l0 t18 m).bind fun p19 =>
    r56 l0 (wI (l1 + 1)) p19
  )
def X11_image_L56 (N : Nat) (k84 : Nat → Mem → Option (Int × Mem)) : Nat → Nat → Int → Mem → Option (Int × Mem)
  | 0 => fun _ _ _ => none
  | f + 1 => X11_image_L56_b N k84 (X11_image_L56 N k84 f)
def X11_image_L86_b (N : Nat) (k128 : Nat → Mem → Option (Int × Mem)) (r86 : Nat → Int → Mem → Option (Int × Mem)) (l0 : Nat) (l1 : Int) (m : Mem) : Option (Int × Mem) :=
  (getR 11 21 l0 m).bind fun t23 =>
  (getI 11 13 l0 m).bind fun t24 =>
  (aldI t23 t24 m).bind fun t25 =>
  if t25 ≤ l1 then (
    k128 l0 m
  ) else (
    (getR 11 53 l0 m).bind fun t26 =>
    (aldI t26 l1 m).bind fun t27 =>
    (X11_writes l0 (ishr t27 8) m).bind fun p28 =>
    (getR 11 53 l0 p28).bind fun t29 =>
    (aldI t29 l1 p28).bind fun t30 =>
    (X11_writes l0 t30 p28).bind fun p31 =>
    r86 l0 (wI (l1 + 1)) p31
  )
def X11_image_L86 (N : Nat) (k128 : Nat → Mem → Option (Int × Mem)) : Nat → Nat → Int → Mem → Option (Int × Mem)
  | 0 => fun _ _ _ => none
  | f + 1 => X11_image_L86_b N k128 (X11_image_L86 N k128 f)
def X11_image_L133_b (N : Nat) (k162 : Nat → Int → Mem → Option (Int × Mem)) (r133 : Nat → Int → Int → Mem → Option (Int × Mem)) (l0 : Nat) (l1 : Int) (l2 : Int) (m : Mem) : Option (Int × Mem) :=
  (getI 11 77 l0 m).bind fun t35 =>
  if t35 ≤ l2 then (
    k162 l0 l1 m
  ) else (
    (getR 11 76 l0 m).bind fun t36 =>
    (aldI t36 l2 m).bind fun t37 =>
    r133 l0 (wI (Int.tmod (wI ((wI (5 * l1)) + t37)) 251)) (wI (l2 + 1)) m
  )
def X11_image_L133 (N : Nat) (k162 : Nat → Int → Mem → Option (Int × Mem)) : Nat → Nat → Int → Int → Mem → Option (Int × Mem)
  | 0 => fun _ _ _ _ => none
  | f + 1 => X11_image_L133_b N k162 (X11_image_L133 N k162 f)
def X11_image (N : Nat) (l0 : Nat) (m : Mem) : Option (Int × Mem) :=
  if shK l0 = 11 + 10 then (
    (putI 11 77 l0 0 m).bind fun m1 =>
    (getR 11 50 l0 m1).bind fun t2 =>
    (aldI t2 0 m1).bind fun t3 =>
    (X11_writes l0 (ishr t3 8) m1).bind fun p4 =>
    (getR 11 50 l0 p4).bind fun t5 =>
    (aldI t5 0 p4).bind fun t6 =>
    (X11_writes l0 t6 p4).bind fun p7 =>
    X11_image_L30 N (fun z13 m14 =>
        X11_image_L56 N (fun z21 m22 =>
            X11_image_L86 N (fun z33 m34 =>
                X11_image_L133 N (fun z39 z40 m41 =>
                    (X11_writes z39 z40 m41).bind fun p42 =>
                    (getI 11 77 z39 p42).bind fun t43 =>
                    some (t43, p42)) N z33 79 0 m34) N z21 0 m22) N z13 0 m14) N l0 0 p7
  ) else none
-- DewBaronModel.walling()V
def X11_walling_J20 (N : Nat) (l0 : Nat) (s0 : Nat) (s1 : Int) (m : Mem) : Option Mem :=
  (X11_counts N s0 s1 m).bind fun p4 =>
  if ¬ p4.1 = 0 then (
    (X11_cellAt N l0 1 p4.2).bind fun p5 =>
    (getI 11 8 l0 p5.2).bind fun t6 =>
    if t6 ≤ 0 then (
      (getR 11 17 l0 p5.2).bind fun t7 =>
      (getI 11 40 l0 p5.2).bind fun t8 =>
      (astI t7 (wI ((wI (42 * t8)) + p5.1)) 1 p5.2).bind fun m9 =>
      (getR 11 19 l0 m9).bind fun t10 =>
      (getI 11 40 l0 m9).bind fun t11 =>
      (aldI t10 t11 m9).bind fun t12 =>
      (astI t10 t11 (wI (t12 + 1)) m9).bind fun m13 =>
      some m13
    ) else (
      some p5.2
    )
  ) else (
    some p4.2
  )
def X11_walling (N : Nat) (l0 : Nat) (m : Mem) : Option Mem :=
  if shK l0 = 11 + 10 then (
    (getR 11 19 l0 m).bind fun t1 =>
    (getI 11 40 l0 m).bind fun t2 =>
    (aldI t1 t2 m).bind fun t3 =>
    if ¬ t3 = 12 then (
      X11_walling_J20 N l0 l0 0 m
    ) else (
      X11_walling_J20 N l0 l0 1 m
    )
  ) else none
-- DewBaronModel.thinging(I)V
def X11_thinging_J69 (N : Nat) (l0 : Nat) (l2 : Int) (s0 : Nat) (s1 : Int) (s2 : Int) (m : Mem) : Option Mem :=
  (astL s0 s1 s2 m).bind fun m12 =>
  (X11_must_ N l0 499850634611 m12).bind fun p13 =>
  (getR 11 25 l0 p13).bind fun t14 =>
  (X11_number N l0 1 9 p13).bind fun p15 =>
  (astI t14 l2 p15.1 p15.2).bind fun m16 =>
  (getR 11 26 l0 m16).bind fun t17 =>
  (X11_cellAt N l0 1 m16).bind fun p18 =>
  (astI t17 l2 p18.1 p18.2).bind fun m19 =>
  (getI 11 8 l0 m19).bind fun t20 =>
  if ¬ t20 = 0 then (
    some m19
  ) else (
    (getR 11 23 l0 m19).bind fun t21 =>
    (getI 11 40 l0 m19).bind fun t22 =>
    (aldI t21 t22 m19).bind fun t23 =>
    (astI t21 t22 (wI (t23 + 1)) m19).bind fun m24 =>
    some m24
  )
def X11_thinging_J20 (N : Nat) (l0 : Nat) (l1 : Int) (s0 : Nat) (s1 : Int) (m : Mem) : Option Mem :=
  (X11_counts N s0 s1 m).bind fun p4 =>
  if ¬ p4.1 = 0 then (
    (getI 11 40 l0 p4.2).bind fun t5 =>
    (getR 11 23 l0 p4.2).bind fun t6 =>
    (getI 11 40 l0 p4.2).bind fun t7 =>
    (aldI t6 t7 p4.2).bind fun t8 =>
    (getR 11 24 l0 p4.2).bind fun t9 =>
    (astI t9 (wI ((wI (10 * t5)) + t8)) l1 p4.2).bind fun m10 =>
    (getR 11 38 l0 m10).bind fun t11 =>
    if ¬ l1 = 0 then (
      X11_thinging_J69 N l0 (wI ((wI (10 * t5)) + t8)) t11 (wI ((wI (10 * t5)) + t8)) 0 m10
    ) else (
      (X11_fresh N l0 m10).bind fun p26 =>
      X11_thinging_J69 N l0 (wI ((wI (10 * t5)) + t8)) t11 (wI ((wI (10 * t5)) + t8)) p26.1 p26.2
    )
  ) else (
    some p4.2
  )
def X11_thinging (N : Nat) (l0 : Nat) (l1 : Int) (m : Mem) : Option Mem :=
  if shK l0 = 11 + 10 then (
    (getR 11 23 l0 m).bind fun t1 =>
    (getI 11 40 l0 m).bind fun t2 =>
    (aldI t1 t2 m).bind fun t3 =>
    if ¬ t3 = 10 then (
      X11_thinging_J20 N l0 l1 l0 0 m
    ) else (
      X11_thinging_J20 N l0 l1 l0 1 m
    )
  ) else none
-- DewBaronModel.skyOf(I)I
def X11_skyOf (l0 : Int) (m : Mem) : Option Int :=
  if ¬ l0 = 99 then (
    if ¬ l0 = 111 then (
      if ¬ l0 = 119 then (
        if ¬ l0 = 115 then (
          some (-1)
        ) else (
          some 3
        )
      ) else (
        some 2
      )
    ) else (
      some 1
    )
  ) else (
    some 0
  )
-- DewBaronModel.skying()V
def X11_skying_J87 (N : Nat) (r57 : Nat → Int → Int → Mem → Option Mem) (l0 : Nat) (l2 : Int) (s0 : Int) (m : Mem) : Option Mem :=
  r57 l0 s0 (wI (l2 + 1)) m
def X11_skying_L57_b (N : Nat) (k94 : Nat → Int → Mem → Option Mem) (r57 : Nat → Int → Int → Mem → Option Mem) (l0 : Nat) (l1 : Int) (l2 : Int) (m : Mem) : Option Mem :=
  (getI 11 5 l0 m).bind fun t4 =>
  if t4 ≤ l2 then (
    k94 l0 l1 m
  ) else (
    if l1 = 0 then (
      k94 l0 l1 m
    ) else (
      (getR 11 0 l0 m).bind fun t5 =>
      (aldI t5 l2 m).bind fun t6 =>
      (X11_skyOf t6 m).bind fun p7 =>
      if p7 = (-1) then (
        X11_skying_J87 N r57 l0 l2 0 m
      ) else (
        X11_skying_J87 N r57 l0 l2 1 m
      )
    )
  )
def X11_skying_L57 (N : Nat) (k94 : Nat → Int → Mem → Option Mem) : Nat → Nat → Int → Int → Mem → Option Mem
  | 0 => fun _ _ _ _ => none
  | f + 1 => X11_skying_L57_b N k94 (X11_skying_L57 N k94 f)
def X11_skying_J167 (N : Nat) (r117 : Nat → Int → Mem → Option Mem) (l0 : Nat) (l2 : Int) (s0 : Nat) (s1 : Int) (s2 : Int) (m : Mem) : Option Mem :=
  (astI s0 s1 s2 m).bind fun m19 =>
  r117 l0 (wI (l2 + 1)) m19
def X11_skying_L117_b (N : Nat) (k174 : Nat → Mem → Option Mem) (r117 : Nat → Int → Mem → Option Mem) (l0 : Nat) (l2 : Int) (m : Mem) : Option Mem :=
  if 12 ≤ l2 then (
    k174 l0 m
  ) else (
    (getR 11 27 l0 m).bind fun t15 =>
    (getI 11 40 l0 m).bind fun t16 =>
    (getI 11 4 l0 m).bind fun t17 =>
    (getI 11 5 l0 m).bind fun t18 =>
    if t18 ≤ (wI (t17 + l2)) then (
      X11_skying_J167 N r117 l0 l2 t15 (wI ((wI (12 * t16)) + l2)) 0 m
    ) else (
      (getR 11 0 l0 m).bind fun t20 =>
      (getI 11 4 l0 m).bind fun t21 =>
      (aldI t20 (wI (t21 + l2)) m).bind fun t22 =>
      (X11_skyOf t22 m).bind fun p23 =>
      X11_skying_J167 N r117 l0 l2 t15 (wI ((wI (12 * t16)) + l2)) p23 m
    )
  )
def X11_skying_L117 (N : Nat) (k174 : Nat → Mem → Option Mem) : Nat → Nat → Int → Mem → Option Mem
  | 0 => fun _ _ _ => none
  | f + 1 => X11_skying_L117_b N k174 (X11_skying_L117 N k174 f)
def X11_skying_J107 (N : Nat) (l0 : Nat) (m : Mem) : Option Mem :=
  (getI 11 8 l0 m).bind fun t14 =>
  if t14 ≤ 0 then (
    X11_skying_L117 N (fun z26 m27 =>
        (X11_ahead N z26 m27).bind fun p28 =>
        some p28) N l0 0 m
  ) else (
    some m
  )
def X11_skying_J51 (N : Nat) (l0 : Nat) (s0 : Int) (m : Mem) : Option Mem :=
  (getI 11 4 l0 m).bind fun t3 =>
  X11_skying_L57 N (fun z11 z12 m13 =>
      if ¬ z12 = 0 then (
        X11_skying_J107 N z11 m13
      ) else (
        (getI 11 4 z11 m13).bind fun t30 =>
        (X11_blame z11 1 t30 m13).bind fun p31 =>
        X11_skying_J107 N z11 p31
      )) N l0 s0 t3 m
def X11_skying_J50 (N : Nat) (l0 : Nat) (m : Mem) : Option Mem :=
  X11_skying_J51 N l0 0 m
def X11_skying (N : Nat) (l0 : Nat) (m : Mem) : Option Mem :=
  if shK l0 = 11 + 10 then (
    (X11_counts N l0 0 m).bind fun p1 =>
    if ¬ p1.1 = 0 then (
      (getI 11 3 l0 p1.2).bind fun t2 =>
      if ¬ t2 = 1 then (
        X11_skying_J50 N l0 p1.2
      ) else (
        (getI 11 5 l0 p1.2).bind fun t33 =>
        (getI 11 4 l0 p1.2).bind fun t34 =>
        (X11_is (wI (t33 - t34)) 1 12 p1.2).bind fun p35 =>
        if p35 = 0 then (
          X11_skying_J50 N l0 p1.2
        ) else (
          (getI 11 12 l0 p1.2).bind fun t36 =>
          (getI 11 4 l0 p1.2).bind fun t37 =>
          if t36 = t37 then (
            X11_skying_J50 N l0 p1.2
          ) else (
            X11_skying_J51 N l0 1 p1.2
          )
        )
      )
    ) else (
      some p1.2
    )
  ) else none
-- DewBaronModel.telling(I)V
def X11_telling_J84 (N : Nat) (l0 : Nat) (l1 : Int) (l2 : Int) (m : Mem) : Option Mem :=
  if ¬ l1 = 2 then (
    some m
  ) else (
    (getR 11 34 l0 m).bind fun t4 =>
    (getI 11 40 l0 m).bind fun t5 =>
    (astI t4 t5 l2 m).bind fun m6 =>
    some m6
  )
def X11_telling_J69 (N : Nat) (l0 : Nat) (l1 : Int) (l2 : Int) (m : Mem) : Option Mem :=
  if ¬ l1 = 1 then (
    X11_telling_J84 N l0 l1 l2 m
  ) else (
    (getR 11 33 l0 m).bind fun t8 =>
    (getI 11 40 l0 m).bind fun t9 =>
    (astI t8 t9 l2 m).bind fun m10 =>
    X11_telling_J84 N l0 l1 l2 m10
  )
def X11_telling_J46 (N : Nat) (l0 : Nat) (l1 : Int) (s0 : Int) (m : Mem) : Option Mem :=
  (getI 11 8 l0 m).bind fun t3 =>
  if t3 ≤ 0 then (
    if ¬ l1 = 0 then (
      X11_telling_J69 N l0 l1 s0 m
    ) else (
      (getR 11 32 l0 m).bind fun t12 =>
      (getI 11 40 l0 m).bind fun t13 =>
      (astI t12 t13 s0 m).bind fun m14 =>
      X11_telling_J69 N l0 l1 s0 m14
    )
  ) else (
    some m
  )
def X11_telling (N : Nat) (l0 : Nat) (l1 : Int) (m : Mem) : Option Mem :=
  if shK l0 = 11 + 10 then (
    (X11_counts N l0 0 m).bind fun p1 =>
    if ¬ p1.1 = 0 then (
      if ¬ l1 = 0 then (
        if ¬ l1 = 1 then (
          (X11_number N l0 1 20 p1.2).bind fun p2 =>
          X11_telling_J46 N l0 l1 p2.1 p2.2
        ) else (
          (X11_number N l0 0 100 p1.2).bind fun p17 =>
          X11_telling_J46 N l0 l1 p17.1 p17.2
        )
      ) else (
        (X11_number N l0 0 999 p1.2).bind fun p19 =>
        X11_telling_J46 N l0 l1 p19.1 p19.2
      )
    ) else (
      some p1.2
    )
  ) else none
-- DewBaronModel.statement()V
def X11_statement (N : Nat) (l0 : Nat) (m : Mem) : Option Mem :=
  if shK l0 = 11 + 10 then (
    (X11_lex l0 m).bind fun p1 =>
    (getI 11 8 l0 p1).bind fun t2 =>
    if t2 ≤ 0 then (
      (X11_isWord l0 114784769370228 p1).bind fun p3 =>
      if p3 = 0 then (
        (X11_isWord l0 2002873452 p1).bind fun p4 =>
        if p4 = 0 then (
          (X11_isWord l0 448546567013 p1).bind fun p5 =>
          if p5 = 0 then (
            (X11_isWord l0 27981967289315950 p1).bind fun p6 =>
            if p6 = 0 then (
              (X11_isWord l0 427021005928 p1).bind fun p7 =>
              if p7 = 0 then (
                (X11_isWord l0 495874698853 p1).bind fun p8 =>
                if p8 = 0 then (
                  (X11_isWord l0 7824738 p1).bind fun p9 =>
                  if p9 = 0 then (
                    (X11_isWord l0 7564153 p1).bind fun p10 =>
                    if p10 = 0 then (
                      (X11_isWord l0 6579575 p1).bind fun p11 =>
                      if p11 = 0 then (
                        (X11_isWord l0 431416239475 p1).bind fun p12 =>
                        if p12 = 0 then (
                          (X11_isWord l0 110442557893491 p1).bind fun p13 =>
                          if p13 = 0 then (
                            (X11_isWord l0 109317377582201 p1).bind fun p14 =>
                            if p14 = 0 then (
                              (X11_isWord l0 513020620391 p1).bind fun p15 =>
                              if p15 = 0 then (
                                (getI 11 4 l0 p1).bind fun t16 =>
                                (X11_blame l0 1 t16 p1).bind fun p17 =>
                                some p17
                              ) else (
                                (X11_telling N l0 2 p1).bind fun p18 =>
                                some p18
                              )
                            ) else (
                              (X11_telling N l0 1 p1).bind fun p20 =>
                              some p20
                            )
                          ) else (
                            (X11_telling N l0 0 p1).bind fun p22 =>
                            some p22
                          )
                        ) else (
                          (X11_drying N l0 p1).bind fun p24 =>
                          some p24
                        )
                      ) else (
                        (X11_dewing N l0 p1).bind fun p26 =>
                        some p26
                      )
                    ) else (
                      (X11_skying N l0 p1).bind fun p28 =>
                      some p28
                    )
                  ) else (
                    (X11_thinging N l0 2 p1).bind fun p30 =>
                    some p30
                  )
                ) else (
                  (X11_thinging N l0 1 p1).bind fun p32 =>
                  some p32
                )
              ) else (
                (X11_thinging N l0 0 p1).bind fun p34 =>
                some p34
              )
            ) else (
              (X11_cisterning N l0 p1).bind fun p36 =>
              some p36
            )
          ) else (
            (X11_housing N l0 p1).bind fun p38 =>
            some p38
          )
        ) else (
          (X11_walling N l0 p1).bind fun p40 =>
          some p40
        )
      ) else (
        (X11_heighten N l0 p1).bind fun p42 =>
        some p42
      )
    ) else (
      some p1
    )
  ) else none
-- DewBaronModel.island()I
def X11_island_L135_b (N : Nat) (k192 : Nat → Mem → Option (Int × Mem)) (r135 : Nat → Int → Mem → Option (Int × Mem)) (l0 : Nat) (l1 : Int) (m : Mem) : Option (Int × Mem) :=
  if 42 ≤ l1 then (
    k192 l0 m
  ) else (
    (getR 11 16 l0 m).bind fun t37 =>
    (getI 11 40 l0 m).bind fun t38 =>
    (astI t37 (wI ((wI (42 * t38)) + l1)) 0 m).bind fun m39 =>
    (getR 11 17 l0 m39).bind fun t40 =>
    (getI 11 40 l0 m39).bind fun t41 =>
    (astI t40 (wI ((wI (42 * t41)) + l1)) 0 m39).bind fun m42 =>
    (getR 11 18 l0 m42).bind fun t43 =>
    (getI 11 40 l0 m42).bind fun t44 =>
    (astI t43 (wI ((wI (42 * t44)) + l1)) 0 m42).bind fun m45 =>
    r135 l0 (wI (l1 + 1)) m45
  )
def X11_island_L135 (N : Nat) (k192 : Nat → Mem → Option (Int × Mem)) : Nat → Nat → Int → Mem → Option (Int × Mem)
  | 0 => fun _ _ _ => none
  | f + 1 => X11_island_L135_b N k192 (X11_island_L135 N k192 f)
def X11_island_L194_b (N : Nat) (k221 : Nat → Mem → Option (Int × Mem)) (r194 : Nat → Int → Mem → Option (Int × Mem)) (l0 : Nat) (l1 : Int) (m : Mem) : Option (Int × Mem) :=
  if 12 ≤ l1 then (
    k221 l0 m
  ) else (
    (getR 11 27 l0 m).bind fun t49 =>
    (getI 11 40 l0 m).bind fun t50 =>
    (astI t49 (wI ((wI (12 * t50)) + l1)) 0 m).bind fun m51 =>
    r194 l0 (wI (l1 + 1)) m51
  )
def X11_island_L194 (N : Nat) (k221 : Nat → Mem → Option (Int × Mem)) : Nat → Nat → Int → Mem → Option (Int × Mem)
  | 0 => fun _ _ _ => none
  | f + 1 => X11_island_L194_b N k221 (X11_island_L194 N k221 f)
def X11_island_L271_b (N : Nat) (k300 : Nat → Int → Mem → Option (Int × Mem)) (r271 : Nat → Int → Mem → Option (Int × Mem)) (l0 : Nat) (l1 : Int) (m : Mem) : Option (Int × Mem) :=
  (getI 11 8 l0 m).bind fun t66 =>
  if ¬ t66 = 0 then (
    k300 l0 l1 m
  ) else (
    (getI 11 3 l0 m).bind fun t67 =>
    if t67 = 0 then (
      k300 l0 l1 m
    ) else (
      (X11_statement N l0 m).bind fun p68 =>
      (X11_finishes N l0 (wI (l1 + 1)) p68).bind fun p69 =>
      r271 l0 (wI (l1 + 1)) p69
    )
  )
def X11_island_L271 (N : Nat) (k300 : Nat → Int → Mem → Option (Int × Mem)) : Nat → Nat → Int → Mem → Option (Int × Mem)
  | 0 => fun _ _ _ => none
  | f + 1 => X11_island_L271_b N k300 (X11_island_L271 N k300 f)
def X11_island (N : Nat) (l0 : Nat) (m : Mem) : Option (Int × Mem) :=
  if shK l0 = 11 + 10 then (
    (getI 11 1 l0 m).bind fun t1 =>
    (putI 11 2 l0 t1 m).bind fun m2 =>
    (putI 11 1 l0 0 m2).bind fun m3 =>
    (putI 11 5 l0 0 m3).bind fun m4 =>
    (putI 11 8 l0 0 m4).bind fun m5 =>
    (putI 11 9 l0 (-1) m5).bind fun m6 =>
    (getI 11 13 l0 m6).bind fun t7 =>
    (putI 11 40 l0 (wI (1 - t7)) m6).bind fun m8 =>
    (getR 11 19 l0 m8).bind fun t9 =>
    (getI 11 40 l0 m8).bind fun t10 =>
    (astI t9 t10 0 m8).bind fun m11 =>
    (getR 11 20 l0 m11).bind fun t12 =>
    (getI 11 40 l0 m11).bind fun t13 =>
    (astI t12 t13 0 m11).bind fun m14 =>
    (getR 11 21 l0 m14).bind fun t15 =>
    (getI 11 40 l0 m14).bind fun t16 =>
    (astI t15 t16 0 m14).bind fun m17 =>
    (getR 11 23 l0 m17).bind fun t18 =>
    (getI 11 40 l0 m17).bind fun t19 =>
    (astI t18 t19 0 m17).bind fun m20 =>
    (getR 11 28 l0 m20).bind fun t21 =>
    (getI 11 40 l0 m20).bind fun t22 =>
    (astI t21 t22 (-1) m20).bind fun m23 =>
    (getR 11 30 l0 m23).bind fun t24 =>
    (getI 11 40 l0 m23).bind fun t25 =>
    (astI t24 t25 (-1) m23).bind fun m26 =>
    (getR 11 32 l0 m26).bind fun t27 =>
    (getI 11 40 l0 m26).bind fun t28 =>
    (astI t27 t28 0 m26).bind fun m29 =>
    (getR 11 33 l0 m29).bind fun t30 =>
    (getI 11 40 l0 m29).bind fun t31 =>
    (astI t30 t31 0 m29).bind fun m32 =>
    (getR 11 34 l0 m32).bind fun t33 =>
    (getI 11 40 l0 m32).bind fun t34 =>
    (astI t33 t34 5 m32).bind fun m35 =>
    (putI 11 39 l0 0 m35).bind fun m36 =>
    X11_island_L135 N (fun z47 m48 =>
        X11_island_L194 N (fun z53 m54 =>
            (X11_ahead N z53 m54).bind fun p55 =>
            (X11_must_ N z53 115944460480100 p55).bind fun p56 =>
            (getR 11 14 z53 p56).bind fun t57 =>
            (getI 11 40 z53 p56).bind fun t58 =>
            (X11_number N z53 2 7 p56).bind fun p59 =>
            (astI t57 t58 p59.1 p59.2).bind fun m60 =>
            (getR 11 15 z53 m60).bind fun t61 =>
            (getI 11 40 z53 m60).bind fun t62 =>
            (X11_number N z53 2 6 m60).bind fun p63 =>
            (astI t61 t62 p63.1 p63.2).bind fun m64 =>
            (X11_finishes N z53 1 m64).bind fun p65 =>
            X11_island_L271 N (fun z72 z73 m74 =>
                (getI 11 8 z72 m74).bind fun t75 =>
                (putI 11 10 z72 t75 m74).bind fun m76 =>
                (getI 11 9 z72 m76).bind fun t77 =>
                (putI 11 11 z72 t77 m76).bind fun m78 =>
                (getI 11 8 z72 m78).bind fun t79 =>
                if t79 ≤ 0 then (
                  (getI 11 40 z72 m78).bind fun t80 =>
                  (putI 11 13 z72 t80 m78).bind fun m81 =>
                  (X11_begin N z72 m81).bind fun p82 =>
                  some (z73, p82)
                ) else (
                  (X11_refuses z72 1 m78).bind fun p83 =>
                  some (p83.1, p83.2)
                )) N z53 1 p65) N z47 0 m48) N l0 0 m36
  ) else none
-- DewBaronModel.letter(III)I
def X11_letter_L97_b (N : Nat) (k117 : Int → Int → Int → Option Int) (m : Mem) (r97 : Int → Int → Int → Int → Option Int) (l3 : Int) (l4 : Int) (l6 : Int) (l7 : Int) : Option Int :=
  if (lcm l7 0) ≤ 0 then (
    k117 l3 l4 l6
  ) else (
    r97 l3 l4 (wI (l6 + 1)) (lshr l7 8)
  )
def X11_letter_L97 (N : Nat) (k117 : Int → Int → Int → Option Int) (m : Mem) : Nat → Int → Int → Int → Int → Option Int
  | 0 => fun _ _ _ _ => none
  | f + 1 => X11_letter_L97_b N k117 m (X11_letter_L97 N k117 m f)
def X11_letter_J88 (N : Nat) (l3 : Int) (s0 : Int) (m : Mem) : Option Int :=
  X11_letter_L97 N (fun z10 z11 z12 =>
      if z10 < z12 then (
        some (wI ((wI ((wI (land (lshr z11 (wI (8 * (wI ((wI (z12 - 1)) - z10))))) 255)) - 97)) + 1))
      ) else (
        some 0
      )) m N l3 s0 0 s0
def X11_letter_J31 (N : Nat) (l0 : Nat) (l1 : Int) (l2 : Int) (l3 : Int) (s0 : Int) (s1 : Int) (s2 : Int) (m : Mem) : Option Int :=
  (X11_is s0 s1 (wI (s2 - 1)) m).bind fun p3 =>
  if p3 = 0 then (
    some (-1)
  ) else (
    (X11_is l3 0 5 m).bind fun p4 =>
    if ¬ p4 = 0 then (
      if ¬ l1 = 0 then (
        (getR 11 38 l0 m).bind fun t5 =>
        (getI 11 13 l0 m).bind fun t6 =>
        (X11_cloth N l0 l2 m).bind fun p7 =>
        (aldL t5 (wI ((wI (10 * t6)) + p7)) m).bind fun t8 =>
        X11_letter_J88 N l3 t8 m
      ) else (
        (getR 11 37 l0 m).bind fun t14 =>
        (getI 11 13 l0 m).bind fun t15 =>
        (aldL t14 (wI ((wI (5 * t15)) + l2)) m).bind fun t16 =>
        X11_letter_J88 N l3 t16 m
      )
    ) else (
      some (-1)
    )
  )
def X11_letter (N : Nat) (l0 : Nat) (l1 : Int) (l2 : Int) (l3 : Int) (m : Mem) : Option Int :=
  if shK l0 = 11 + 10 then (
    (X11_is l1 0 1 m).bind fun p1 =>
    if p1 = 0 then (
      some (-1)
    ) else (
      if ¬ l1 = 0 then (
        (X11_cloths N l0 m).bind fun p2 =>
        X11_letter_J31 N l0 l1 l2 l3 l2 0 p2 m
      ) else (
        (getR 11 21 l0 m).bind fun t20 =>
        (getI 11 13 l0 m).bind fun t21 =>
        (aldI t20 t21 m).bind fun t22 =>
        X11_letter_J31 N l0 l1 l2 l3 l2 0 t22 m
      )
    )
  ) else none
-- DewBaronModel.linen(II)I
def X11_linen_L69_b (N : Nat) (k107 : Nat → Int → Int → Int → Int → Int → Mem → Option (Int × Mem)) (r69 : Nat → Int → Int → Int → Int → Int → Int → Mem → Option (Int × Mem)) (l0 : Nat) (l1 : Int) (l2 : Int) (l3 : Int) (l4 : Int) (l5 : Int) (l6 : Int) (m : Mem) : Option (Int × Mem) :=
  (X11_cloths N l0 m).bind fun p4 =>
  if p4 ≤ l6 then (
    k107 l0 l1 l2 l3 l4 l5 m
  ) else (
    (X11_cloth N l0 l6 m).bind fun p5 =>
    (X11_dawnOf l0 p5 m).bind fun p6 =>
    r69 l0 l1 l2 l3 l4 (wI (l5 + (wI ((iand (ishr l4 l6) 1) * p6)))) (wI (l6 + 1)) m
  )
def X11_linen_L69 (N : Nat) (k107 : Nat → Int → Int → Int → Int → Int → Mem → Option (Int × Mem)) : Nat → Nat → Int → Int → Int → Int → Int → Int → Mem → Option (Int × Mem)
  | 0 => fun _ _ _ _ _ _ _ _ => none
  | f + 1 => X11_linen_L69_b N k107 (X11_linen_L69 N k107 f)
def X11_linen_J120 (N : Nat) (r32 : Nat → Int → Int → Int → Int → Mem → Option (Int × Mem)) (l0 : Nat) (l1 : Int) (l2 : Int) (l3 : Int) (l4 : Int) (m : Mem) : Option (Int × Mem) :=
  r32 l0 l1 l2 l3 (wI (l4 + 1)) m
def X11_linen_J119 (N : Nat) (r32 : Nat → Int → Int → Int → Int → Mem → Option (Int × Mem)) (l0 : Nat) (l1 : Int) (l2 : Int) (l4 : Int) (s0 : Int) (m : Mem) : Option (Int × Mem) :=
  X11_linen_J120 N r32 l0 l1 l2 s0 l4 m
def X11_linen_J63 (N : Nat) (r32 : Nat → Int → Int → Int → Int → Mem → Option (Int × Mem)) (l0 : Nat) (l1 : Int) (l2 : Int) (l3 : Int) (l4 : Int) (m : Mem) : Option (Int × Mem) :=
  X11_linen_L69 N (fun z8 z9 z10 z11 z12 z13 m14 =>
      if z13 < z9 then (
        X11_linen_J119 N r32 z8 z9 z10 z12 z11 m14
      ) else (
        X11_linen_J119 N r32 z8 z9 z10 z12 z12 m14
      )) N l0 l1 l2 l3 l4 0 0 m
def X11_linen_L32_b (N : Nat) (k126 : Int → Int → Mem → Option (Int × Mem)) (r32 : Nat → Int → Int → Int → Int → Mem → Option (Int × Mem)) (l0 : Nat) (l1 : Int) (l2 : Int) (l3 : Int) (l4 : Int) (m : Mem) : Option (Int × Mem) :=
  (X11_cloths N l0 m).bind fun p3 =>
  if (ishl 1 p3) ≤ l4 then (
    k126 l2 l3 m
  ) else (
    if l3 = (-1) then (
      X11_linen_J63 N r32 l0 l1 l2 l3 l4 m
    ) else (
      (X11_bits N l4 m).bind fun p16 =>
      (X11_bits N l3 m).bind fun p17 =>
      if p16 < p17 then (
        X11_linen_J63 N r32 l0 l1 l2 l3 l4 m
      ) else (
        X11_linen_J120 N r32 l0 l1 l2 l3 l4 m
      )
    )
  )
def X11_linen_L32 (N : Nat) (k126 : Int → Int → Mem → Option (Int × Mem)) : Nat → Nat → Int → Int → Int → Int → Mem → Option (Int × Mem)
  | 0 => fun _ _ _ _ _ _ => none
  | f + 1 => X11_linen_L32_b N k126 (X11_linen_L32 N k126 f)
def X11_linen_J27 (N : Nat) (l0 : Nat) (l1 : Int) (l2 : Int) (m : Mem) : Option (Int × Mem) :=
  X11_linen_L32 N (fun z21 z22 m23 =>
      if ¬ z22 = (-1) then (
        if ¬ z21 = 0 then (
          some (z22, m23)
        ) else (
          (X11_bits N z22 m23).bind fun p24 =>
          some (p24, m23)
        )
      ) else (
        some ((-1), m23)
      )) N l0 l1 l2 (-1) 0 m
def X11_linen (N : Nat) (l0 : Nat) (l1 : Int) (l2 : Int) (m : Mem) : Option (Int × Mem) :=
  if shK l0 = 11 + 10 then (
    if l1 < 0 then (
      some ((-1), m)
    ) else (
      (X11_is l2 0 1 m).bind fun p1 =>
      if ¬ p1 = 0 then (
        (X11_isIsland l0 m).bind fun p2 =>
        if p2 = 0 then (
          X11_linen_J27 N l0 l1 l2 m
        ) else (
          (X11_nightAsTold N l0 0 m).bind fun p27 =>
          X11_linen_J27 N l0 l1 l2 p27
        )
      ) else (
        some ((-1), m)
      )
    )
  ) else none
-- DewBaronModel.nextOrder(I)Z
def X11_nextOrder_L4_b (N : Nat) (k31 : Nat → Int → Int → Mem → Option (Int × Mem)) (r4 : Nat → Int → Int → Mem → Option (Int × Mem)) (l0 : Nat) (l1 : Int) (l2 : Int) (m : Mem) : Option (Int × Mem) :=
  if l2 < 0 then (
    k31 l0 l1 l2 m
  ) else (
    (getR 11 67 l0 m).bind fun t1 =>
    (aldI t1 l2 m).bind fun t2 =>
    (getR 11 67 l0 m).bind fun t3 =>
    (aldI t3 (wI (l2 + 1)) m).bind fun t4 =>
    if t2 ≤ t4 then (
      k31 l0 l1 l2 m
    ) else (
      r4 l0 l1 (wI (l2 + (-1))) m
    )
  )
def X11_nextOrder_L4 (N : Nat) (k31 : Nat → Int → Int → Mem → Option (Int × Mem)) : Nat → Nat → Int → Int → Mem → Option (Int × Mem)
  | 0 => fun _ _ _ _ => none
  | f + 1 => X11_nextOrder_L4_b N k31 (X11_nextOrder_L4 N k31 f)
def X11_nextOrder_L41_b (N : Nat) (k62 : Nat → Int → Int → Int → Mem → Option (Int × Mem)) (r41 : Nat → Int → Int → Int → Mem → Option (Int × Mem)) (l0 : Nat) (l1 : Int) (l2 : Int) (l3 : Int) (m : Mem) : Option (Int × Mem) :=
  (getR 11 67 l0 m).bind fun t11 =>
  (aldI t11 l3 m).bind fun t12 =>
  (getR 11 67 l0 m).bind fun t13 =>
  (aldI t13 l2 m).bind fun t14 =>
  if t14 ≤ t12 then (
    k62 l0 l1 l2 l3 m
  ) else (
    r41 l0 l1 l2 (wI (l3 + (-1))) m
  )
def X11_nextOrder_L41 (N : Nat) (k62 : Nat → Int → Int → Int → Mem → Option (Int × Mem)) : Nat → Nat → Int → Int → Int → Mem → Option (Int × Mem)
  | 0 => fun _ _ _ _ _ => none
  | f + 1 => X11_nextOrder_L41_b N k62 (X11_nextOrder_L41 N k62 f)
def X11_nextOrder_L93_b (N : Nat) (r93 : Nat → Int → Int → Int → Mem → Option (Int × Mem)) (l0 : Nat) (l1 : Int) (l2 : Int) (l5 : Int) (m : Mem) : Option (Int × Mem) :=
  if (wI (l1 - l5)) ≤ (wI (l2 + l5)) then (
    (retZ 1).bind fun r29 => some (r29, m)
  ) else (
    (getR 11 67 l0 m).bind fun t30 =>
    (aldI t30 (wI (l2 + l5)) m).bind fun t31 =>
    (getR 11 67 l0 m).bind fun t32 =>
    (getR 11 67 l0 m).bind fun t33 =>
    (aldI t33 (wI (l1 - l5)) m).bind fun t34 =>
    (astI t32 (wI (l2 + l5)) t34 m).bind fun m35 =>
    (getR 11 67 l0 m35).bind fun t36 =>
    (astI t36 (wI (l1 - l5)) t31 m35).bind fun m37 =>
    r93 l0 l1 l2 (wI (l5 + 1)) m37
  )
def X11_nextOrder_L93 (N : Nat) : Nat → Nat → Int → Int → Int → Mem → Option (Int × Mem)
  | 0 => fun _ _ _ _ _ => none
  | f + 1 => X11_nextOrder_L93_b N (X11_nextOrder_L93 N f)
def X11_nextOrder (N : Nat) (l0 : Nat) (l1 : Int) (m : Mem) : Option (Int × Mem) :=
  if shK l0 = 11 + 10 then (
    X11_nextOrder_L4 N (fun z7 z8 z9 m10 =>
        if 0 ≤ z9 then (
          X11_nextOrder_L41 N (fun z16 z17 z18 z19 m20 =>
              (getR 11 67 z16 m20).bind fun t21 =>
              (aldI t21 z18 m20).bind fun t22 =>
              (getR 11 67 z16 m20).bind fun t23 =>
              (getR 11 67 z16 m20).bind fun t24 =>
              (aldI t24 z19 m20).bind fun t25 =>
              (astI t23 z18 t25 m20).bind fun m26 =>
              (getR 11 67 z16 m26).bind fun t27 =>
              (astI t27 z19 t22 m26).bind fun m28 =>
              X11_nextOrder_L93 N N z16 z17 z18 1 m28) N z7 z8 z9 (wI (z8 - 1)) m10
        ) else (
          (retZ 0).bind fun r39 => some (r39, m10)
        )) N l0 l1 (wI (l1 - 2)) m
  ) else none
-- DewBaronModel.night()I
def X11_night_J19 (N : Nat) (l0 : Nat) (m : Mem) : Option (Int × Mem) :=
  (X11_refuses l0 3 m).bind fun p2 =>
  some (p2.1, p2.2)
def X11_night (N : Nat) (l0 : Nat) (m : Mem) : Option (Int × Mem) :=
  if shK l0 = 11 + 10 then (
    (X11_isIsland l0 m).bind fun p1 =>
    if p1 = 0 then (
      X11_night_J19 N l0 m
    ) else (
      (getR 11 50 l0 m).bind fun t3 =>
      (aldI t3 0 m).bind fun t4 =>
      if ¬ t4 = 9999 then (
        (X11_keeps N l0 m).bind fun p5 =>
        (X11_nightAsTold N l0 0 p5).bind fun p6 =>
        (X11_fills N l0 p6).bind fun p7 =>
        some (p7.1, p7.2)
      ) else (
        X11_night_J19 N l0 m
      )
    )
  ) else none
-- DewBaronModel.nights(I)I
def X11_nights_J31 (N : Nat) (l0 : Nat) (m : Mem) : Option (Int × Mem) :=
  (X11_refuses l0 3 m).bind fun p2 =>
  some (p2.1, p2.2)
def X11_nights_J89 (N : Nat) (r53 : Nat → Int → Int → Int → Int → Mem → Option (Int × Mem)) (l0 : Nat) (l1 : Int) (l2 : Int) (l3 : Int) (l4 : Int) (s0 : Nat) (s1 : Int) (s2 : Int) (m : Mem) : Option (Int × Mem) :=
  (astI s0 s1 s2 m).bind fun m12 =>
  r53 l0 l1 l2 l3 (wI (l4 + 1)) m12
def X11_nights_L53_b (N : Nat) (k96 : Nat → Int → Int → Int → Mem → Option (Int × Mem)) (r53 : Nat → Int → Int → Int → Int → Mem → Option (Int × Mem)) (l0 : Nat) (l1 : Int) (l2 : Int) (l3 : Int) (l4 : Int) (m : Mem) : Option (Int × Mem) :=
  if 12 ≤ l4 then (
    k96 l0 l1 l2 l3 m
  ) else (
    (getR 11 62 l0 m).bind fun t7 =>
    (X11_draw l0 100 m).bind fun p8 =>
    (getR 11 33 l0 p8.2).bind fun t9 =>
    (getI 11 13 l0 p8.2).bind fun t10 =>
    (aldI t9 t10 p8.2).bind fun t11 =>
    if t11 ≤ p8.1 then (
      X11_nights_J89 N r53 l0 l1 l2 l3 l4 t7 l4 0 p8.2
    ) else (
      X11_nights_J89 N r53 l0 l1 l2 l3 l4 t7 l4 1 p8.2
    )
  )
def X11_nights_L53 (N : Nat) (k96 : Nat → Int → Int → Int → Mem → Option (Int × Mem)) : Nat → Nat → Int → Int → Int → Int → Mem → Option (Int × Mem)
  | 0 => fun _ _ _ _ _ _ => none
  | f + 1 => X11_nights_L53_b N k96 (X11_nights_L53 N k96 f)
def X11_nights_L45_b (N : Nat) (r45 : Nat → Int → Int → Int → Mem → Option (Int × Mem)) (l0 : Nat) (l1 : Int) (l2 : Int) (l3 : Int) (m : Mem) : Option (Int × Mem) :=
  if l1 ≤ l3 then (
    some (l2, m)
  ) else (
    X11_nights_L53 N (fun z15 z16 z17 z18 m19 =>
        (X11_goesNight N z15 0 m19).bind fun p20 =>
        (X11_fills N z15 p20).bind fun p21 =>
        r45 z15 z16 (wI (z17 + p21.1)) (wI (z18 + 1)) p21.2) N l0 l1 l2 l3 0 m
  )
def X11_nights_L45 (N : Nat) : Nat → Nat → Int → Int → Int → Mem → Option (Int × Mem)
  | 0 => fun _ _ _ _ _ => none
  | f + 1 => X11_nights_L45_b N (X11_nights_L45 N f)
def X11_nights (N : Nat) (l0 : Nat) (l1 : Int) (m : Mem) : Option (Int × Mem) :=
  if shK l0 = 11 + 10 then (
    (X11_isIsland l0 m).bind fun p1 =>
    if p1 = 0 then (
      X11_nights_J31 N l0 m
    ) else (
      (X11_is l1 1 40 m).bind fun p3 =>
      if p3 = 0 then (
        X11_nights_J31 N l0 m
      ) else (
        (getR 11 50 l0 m).bind fun t4 =>
        (aldI t4 0 m).bind fun t5 =>
        if (wI (t5 + l1)) ≤ 9999 then (
          (X11_keeps N l0 m).bind fun p6 =>
          X11_nights_L45 N N l0 l1 0 0 p6
        ) else (
          X11_nights_J31 N l0 m
        )
      )
    )
  ) else none
-- DewBaronModel.octet(I)I
def X11_octet (l0 : Nat) (l1 : Int) (m : Mem) : Option Int :=
  if shK l0 = 11 + 10 then (
    (getI 11 77 l0 m).bind fun t1 =>
    (X11_is l1 0 (wI (t1 - 1)) m).bind fun p2 =>
    if p2 = 0 then (
      some (-1)
    ) else (
      (getR 11 76 l0 m).bind fun t3 =>
      (aldI t3 l1 m).bind fun t4 =>
      some t4
    )
  ) else none
-- DewBaronModel.on()Z
def X11_on (N : Nat) (l0 : Nat) (m : Mem) : Option (Int × Mem) :=
  if shK l0 = 11 + 10 then (
    (getI 11 1 l0 m).bind fun t1 =>
    (putI 11 1 l0 0 m).bind fun m2 =>
    (X11_comesOn N l0 t1 m2).bind fun p3 =>
    if ¬ p3.1 = 0 then (
      (X11_copies N l0 0 1 p3.2).bind fun p4 =>
      (putI 11 55 l0 0 p4).bind fun m5 =>
      (retZ 1).bind fun r6 => some (r6, m5)
    ) else (
      (X11_refuses l0 5 p3.2).bind fun p7 =>
      if p7.1 < 0 then (
        (retZ 0).bind fun r8 => some (r8, p7.2)
      ) else (
        (retZ 1).bind fun r9 => some (r9, p7.2)
      )
    )
  ) else none
-- DewBaronModel.order(I)I
def X11_order_L36_b (N : Nat) (k54 : Nat → Int → Int → Mem → Option (Int × Mem)) (r36 : Nat → Int → Int → Int → Mem → Option (Int × Mem)) (l0 : Nat) (l1 : Int) (l2 : Int) (l3 : Int) (m : Mem) : Option (Int × Mem) :=
  if l2 ≤ l3 then (
    k54 l0 l1 l2 m
  ) else (
    (getR 11 67 l0 m).bind fun t3 =>
    (astI t3 l3 l3 m).bind fun m4 =>
    r36 l0 l1 l2 (wI (l3 + 1)) m4
  )
def X11_order_L36 (N : Nat) (k54 : Nat → Int → Int → Mem → Option (Int × Mem)) : Nat → Nat → Int → Int → Int → Mem → Option (Int × Mem)
  | 0 => fun _ _ _ _ _ => none
  | f + 1 => X11_order_L36_b N k54 (X11_order_L36 N k54 f)
def X11_order_L74_b (N : Nat) (k106 : Nat → Int → Int → Int → Int → Mem → Option (Int × Mem)) (r74 : Nat → Int → Int → Int → Int → Int → Mem → Option (Int × Mem)) (l0 : Nat) (l1 : Int) (l2 : Int) (l3 : Int) (l5 : Int) (l6 : Int) (m : Mem) : Option (Int × Mem) :=
  if l2 ≤ l6 then (
    k106 l0 l1 l2 l3 l5 m
  ) else (
    if l5 ≤ l3 then (
      k106 l0 l1 l2 l3 l5 m
    ) else (
      (getR 11 68 l0 m).bind fun t11 =>
      (getR 11 67 l0 m).bind fun t12 =>
      (aldI t12 l6 m).bind fun t13 =>
      (astI t11 l6 t13 m).bind fun m14 =>
      r74 l0 l1 l2 l3 l5 (wI (l6 + 1)) m14
    )
  )
def X11_order_L74 (N : Nat) (k106 : Nat → Int → Int → Int → Int → Mem → Option (Int × Mem)) : Nat → Nat → Int → Int → Int → Int → Int → Mem → Option (Int × Mem)
  | 0 => fun _ _ _ _ _ _ _ => none
  | f + 1 => X11_order_L74_b N k106 (X11_order_L74 N k106 f)
def X11_order_J118 (N : Nat) (r59 : Nat → Int → Int → Int → Int → Mem → Option (Int × Mem)) (l0 : Nat) (l1 : Int) (l2 : Int) (s0 : Int) (m : Mem) : Option (Int × Mem) :=
  (X11_nextOrder N l0 l2 m).bind fun p23 =>
  r59 l0 l1 l2 s0 p23.1 p23.2
def X11_order_L59_b (N : Nat) (k129 : Nat → Int → Int → Mem → Option (Int × Mem)) (r59 : Nat → Int → Int → Int → Int → Mem → Option (Int × Mem)) (l0 : Nat) (l1 : Int) (l2 : Int) (l3 : Int) (l4 : Int) (m : Mem) : Option (Int × Mem) :=
  if l4 = 0 then (
    k129 l0 l1 l3 m
  ) else (
    (X11_gotBy N l0 l2 m).bind fun p10 =>
    X11_order_L74 N (fun z17 z18 z19 z20 z21 m22 =>
        if z21 ≤ z20 then (
          X11_order_J118 N r59 z17 z18 z19 z20 m22
        ) else (
          X11_order_J118 N r59 z17 z18 z19 z21 m22
        )) N l0 l1 l2 l3 p10 0 m
  )
def X11_order_L59 (N : Nat) (k129 : Nat → Int → Int → Mem → Option (Int × Mem)) : Nat → Nat → Int → Int → Int → Int → Mem → Option (Int × Mem)
  | 0 => fun _ _ _ _ _ _ => none
  | f + 1 => X11_order_L59_b N k129 (X11_order_L59 N k129 f)
def X11_order_J29 (N : Nat) (l0 : Nat) (l1 : Int) (l2 : Int) (m : Mem) : Option (Int × Mem) :=
  (X11_nightAsTold N l0 0 m).bind fun p2 =>
  X11_order_L36 N (fun z6 z7 z8 m9 =>
      X11_order_L59 N (fun z26 z27 z28 m29 =>
          if ¬ z27 = (-1) then (
            (getR 11 68 z26 m29).bind fun t30 =>
            (aldI t30 z27 m29).bind fun t31 =>
            some (t31, m29)
          ) else (
            some (z28, m29)
          )) N z6 z7 z8 (-1) 1 m9) N l0 l1 l2 0 p2
def X11_order (N : Nat) (l0 : Nat) (l1 : Int) (m : Mem) : Option (Int × Mem) :=
  if shK l0 = 11 + 10 then (
    (X11_cloths N l0 m).bind fun p1 =>
    if 6 < p1 then (
      some ((-1), m)
    ) else (
      if l1 = (-1) then (
        X11_order_J29 N l0 l1 p1 m
      ) else (
        (X11_is l1 0 (wI (p1 - 1)) m).bind fun p33 =>
        if ¬ p33 = 0 then (
          X11_order_J29 N l0 l1 p1 m
        ) else (
          some ((-1), m)
        )
      )
    )
  ) else none
-- DewBaronModel.seed(I)Z
def X11_seed (l0 : Nat) (l1 : Int) (m : Mem) : Option (Int × Mem) :=
  if shK l0 = 11 + 10 then (
    if 0 ≤ l1 then (
      (putI 11 56 l0 l1 m).bind fun m1 =>
      (retZ 1).bind fun r2 => some (r2, m1)
    ) else (
      (X11_refuses l0 5 m).bind fun p3 =>
      if p3.1 < 0 then (
        (retZ 0).bind fun r4 => some (r4, p3.2)
      ) else (
        (retZ 1).bind fun r5 => some (r5, p3.2)
      )
    )
  ) else none
-- DewBaronModel.sky(I)I
def X11_sky (l0 : Nat) (l1 : Int) (m : Mem) : Option Int :=
  if shK l0 = 11 + 10 then (
    (X11_is l1 1 12 m).bind fun p1 =>
    if p1 = 0 then (
      some (-1)
    ) else (
      (getR 11 27 l0 m).bind fun t2 =>
      (getI 11 13 l0 m).bind fun t3 =>
      (aldI t2 (wI ((wI ((wI (12 * t3)) + l1)) - 1)) m).bind fun t4 =>
      some t4
    )
  ) else none
-- DewBaronModel.status(I)I
def X11_status (l0 : Nat) (l1 : Int) (m : Mem) : Option Int :=
  if shK l0 = 11 + 10 then (
    (X11_is l1 0 5 m).bind fun p1 =>
    if p1 = 0 then (
      some (-1)
    ) else (
      (getR 11 49 l0 m).bind fun t2 =>
      (aldI t2 l1 m).bind fun t3 =>
      some t3
    )
  ) else none
-- DewBaronModel.stores(I)I
def X11_stores_J86 (N : Nat) (r40 : Nat → Int → Int → Int → Mem → Option (Int × Mem)) (l0 : Nat) (l1 : Int) (l2 : Int) (l3 : Int) (s0 : Int) (m : Mem) : Option (Int × Mem) :=
  (getR 11 32 l0 m).bind fun t11 =>
  (getI 11 13 l0 m).bind fun t12 =>
  (aldI t11 t12 m).bind fun t13 =>
  if t13 ≤ s0 then (
    (getR 11 53 l0 m).bind fun t14 =>
    (getR 11 32 l0 m).bind fun t15 =>
    (getI 11 13 l0 m).bind fun t16 =>
    (aldI t15 t16 m).bind fun t17 =>
    (astI t14 (wI (5 + l3)) (wI (s0 - t17)) m).bind fun m18 =>
    r40 l0 l1 l2 (wI (l3 + 1)) m18
  ) else (
    if ¬ l1 = 0 then (
      some (l3, m)
    ) else (
      some (l2, m)
    )
  )
def X11_stores_L40_b (N : Nat) (k138 : Nat → Int → Int → Mem → Option (Int × Mem)) (r40 : Nat → Int → Int → Int → Mem → Option (Int × Mem)) (l0 : Nat) (l1 : Int) (l2 : Int) (l3 : Int) (m : Mem) : Option (Int × Mem) :=
  (getR 11 21 l0 m).bind fun t5 =>
  (getI 11 13 l0 m).bind fun t6 =>
  (aldI t5 t6 m).bind fun t7 =>
  if t7 ≤ l3 then (
    k138 l0 l1 l2 m
  ) else (
    (getR 11 53 l0 m).bind fun t8 =>
    (aldI t8 (wI (5 + l3)) m).bind fun t9 =>
    (X11_comes N l0 0 l3 m).bind fun p10 =>
    if (wI (t9 + p10)) ≤ 9999 then (
      X11_stores_J86 N r40 l0 l1 l2 l3 (wI (t9 + p10)) m
    ) else (
      X11_stores_J86 N r40 l0 l1 l2 l3 9999 m
    )
  )
def X11_stores_L40 (N : Nat) (k138 : Nat → Int → Int → Mem → Option (Int × Mem)) : Nat → Nat → Int → Int → Int → Mem → Option (Int × Mem)
  | 0 => fun _ _ _ _ _ => none
  | f + 1 => X11_stores_L40_b N k138 (X11_stores_L40 N k138 f)
def X11_stores_L31_b (N : Nat) (r31 : Nat → Int → Int → Mem → Option (Int × Mem)) (l0 : Nat) (l1 : Int) (l2 : Int) (m : Mem) : Option (Int × Mem) :=
  if 1000 ≤ l2 then (
    some ((-1), m)
  ) else (
    X11_stores_L40 N (fun z23 z24 z25 m26 =>
        r31 z23 z24 (wI (z25 + 1)) m26) N l0 l1 l2 0 m
  )
def X11_stores_L31 (N : Nat) : Nat → Nat → Int → Int → Mem → Option (Int × Mem)
  | 0 => fun _ _ _ _ => none
  | f + 1 => X11_stores_L31_b N (X11_stores_L31 N f)
def X11_stores (N : Nat) (l0 : Nat) (l1 : Int) (m : Mem) : Option (Int × Mem) :=
  if shK l0 = 11 + 10 then (
    (X11_is l1 0 1 m).bind fun p1 =>
    if p1 = 0 then (
      some ((-1), m)
    ) else (
      (X11_isIsland l0 m).bind fun p2 =>
      if ¬ p2 = 0 then (
        (X11_nightAsTold N l0 0 m).bind fun p3 =>
        (X11_copies N l0 1 0 p3).bind fun p4 =>
        X11_stores_L31 N N l0 l1 1 p4
      ) else (
        some ((-1), m)
      )
    )
  ) else none
-- DewBaronModel.thing(II)I
def X11_thing (N : Nat) (l0 : Nat) (l1 : Int) (l2 : Int) (m : Mem) : Option (Int × Mem) :=
  if shK l0 = 11 + 10 then (
    (X11_isThing l0 l1 m).bind fun p1 =>
    if ¬ p1 = 0 then (
      if l2 = 0 then (
        (getR 11 52 l0 m).bind fun t2 =>
        (aldI t2 l1 m).bind fun t3 =>
        some (t3, m)
      ) else
      if l2 = 1 then (
        (X11_takesOf l0 l1 m).bind fun p5 =>
        some (p5, m)
      ) else
      if l2 = 2 then (
        (X11_sortOf l0 l1 m).bind fun p7 =>
        some (p7, m)
      ) else
      if l2 = 3 then (
        (X11_cisternOf N l0 0 l1 m).bind fun p9 =>
        some (p9, m)
      ) else
      if l2 = 4 then (
        (X11_nightAsTold N l0 0 m).bind fun p11 =>
        (X11_dawnOf l0 l1 p11).bind fun p12 =>
        some (p12, p11)
      ) else
      some ((-1), m)
    ) else (
      some ((-1), m)
    )
  ) else none
-- DewBaronModel.undo()Z
def X11_undo (N : Nat) (l0 : Nat) (m : Mem) : Option (Int × Mem) :=
  if shK l0 = 11 + 10 then (
    (getI 11 55 l0 m).bind fun t1 =>
    if ¬ t1 = 0 then (
      (getI 11 55 l0 m).bind fun t2 =>
      (putI 11 55 l0 (wI (t2 - 1)) m).bind fun m3 =>
      (getI 11 55 l0 m3).bind fun t4 =>
      (X11_ring l0 t4 m3).bind fun p5 =>
      (X11_copies N l0 0 p5 m3).bind fun p6 =>
      (retZ 1).bind fun r7 => some (r7, p6)
    ) else (
      (X11_refuses l0 4 m).bind fun p8 =>
      if p8.1 < 0 then (
        (retZ 0).bind fun r9 => some (r9, p8.2)
      ) else (
        (retZ 1).bind fun r10 => some (r10, p8.2)
      )
    )
  ) else none
-- DewBaronModel.votes(II)I
def X11_votes_J84 (N : Nat) (r33 : Nat → Int → Int → Int → Int → Mem → Option (Int × Mem)) (l0 : Nat) (l1 : Int) (l2 : Int) (l4 : Int) (s0 : Int) (s1 : Int) (m : Mem) : Option (Int × Mem) :=
  r33 l0 l1 l2 (wI (s0 + s1)) (wI (l4 + 1)) m
def X11_votes_L33_b (N : Nat) (r33 : Nat → Int → Int → Int → Int → Mem → Option (Int × Mem)) (l0 : Nat) (l1 : Int) (l2 : Int) (l3 : Int) (l4 : Int) (m : Mem) : Option (Int × Mem) :=
  (getR 11 21 l0 m).bind fun t4 =>
  (getI 11 13 l0 m).bind fun t5 =>
  (aldI t4 t5 m).bind fun t6 =>
  if t6 ≤ l4 then (
    some (l3, m)
  ) else (
    (X11_without N l0 l1 l4 m).bind fun p7 =>
    if ¬ l2 = 0 then (
      if 0 ≤ p7.1 then (
        X11_votes_J84 N r33 l0 l1 l2 l4 l3 0 p7.2
      ) else (
        X11_votes_J84 N r33 l0 l1 l2 l4 l3 1 p7.2
      )
    ) else (
      if p7.1 ≤ 0 then (
        X11_votes_J84 N r33 l0 l1 l2 l4 l3 0 p7.2
      ) else (
        X11_votes_J84 N r33 l0 l1 l2 l4 l3 1 p7.2
      )
    )
  )
def X11_votes_L33 (N : Nat) : Nat → Nat → Int → Int → Int → Int → Mem → Option (Int × Mem)
  | 0 => fun _ _ _ _ _ _ => none
  | f + 1 => X11_votes_L33_b N (X11_votes_L33 N f)
def X11_votes (N : Nat) (l0 : Nat) (l1 : Int) (l2 : Int) (m : Mem) : Option (Int × Mem) :=
  if shK l0 = 11 + 10 then (
    (X11_isCell l0 l1 m).bind fun p1 =>
    if p1 = 0 then (
      some ((-1), m)
    ) else (
      (X11_isWall l0 0 l1 m).bind fun p2 =>
      if p2 = 0 then (
        some ((-1), m)
      ) else (
        (X11_is l2 0 1 m).bind fun p3 =>
        if ¬ p3 = 0 then (
          X11_votes_L33 N N l0 l1 l2 0 0 m
        ) else (
          some ((-1), m)
        )
      )
    )
  ) else none
-- DewBaronModel.walk(I)I
def X11_walk (l0 : Nat) (l1 : Int) (m : Mem) : Option Int :=
  if shK l0 = 11 + 10 then (
    (getI 11 72 l0 m).bind fun t1 =>
    (X11_is l1 0 (wI (t1 - 1)) m).bind fun p2 =>
    if p2 = 0 then (
      some (-1)
    ) else (
      (getR 11 73 l0 m).bind fun t3 =>
      (aldI t3 l1 m).bind fun t4 =>
      some t4
    )
  ) else none
-- DewBaronModel.walked()I
def X11_walked_J74 (N : Nat) (r43 : Nat → Int → Int → Int → Int → Mem → Option (Int × Mem)) (l0 : Nat) (l1 : Int) (l3 : Int) (l4 : Int) (s0 : Int) (m : Mem) : Option (Int × Mem) :=
  r43 l0 l1 s0 l3 (wI (l4 + 1)) m
def X11_walked_J73 (N : Nat) (r43 : Nat → Int → Int → Int → Int → Mem → Option (Int × Mem)) (l0 : Nat) (l1 : Int) (l3 : Int) (l4 : Int) (m : Mem) : Option (Int × Mem) :=
  X11_walked_J74 N r43 l0 l1 l3 l4 0 m
def X11_walked_L43_b (N : Nat) (k81 : Nat → Int → Int → Int → Mem → Option (Int × Mem)) (r43 : Nat → Int → Int → Int → Int → Mem → Option (Int × Mem)) (l0 : Nat) (l1 : Int) (l2 : Int) (l3 : Int) (l4 : Int) (m : Mem) : Option (Int × Mem) :=
  if l3 ≤ l4 then (
    k81 l0 l1 l2 l3 m
  ) else (
    if l2 = 0 then (
      X11_walked_J73 N r43 l0 l1 l3 l4 m
    ) else (
      (getR 11 0 l0 m).bind fun t7 =>
      (aldI t7 l4 m).bind fun t8 =>
      (getR 11 0 l0 m).bind fun t9 =>
      (aldI t9 l3 m).bind fun t10 =>
      if t8 = t10 then (
        X11_walked_J73 N r43 l0 l1 l3 l4 m
      ) else (
        X11_walked_J74 N r43 l0 l1 l3 l4 1 m
      )
    )
  )
def X11_walked_L43 (N : Nat) (k81 : Nat → Int → Int → Int → Mem → Option (Int × Mem)) : Nat → Nat → Int → Int → Int → Int → Mem → Option (Int × Mem)
  | 0 => fun _ _ _ _ _ _ => none
  | f + 1 => X11_walked_L43_b N k81 (X11_walked_L43 N k81 f)
def X11_walked_L20_b (N : Nat) (k87 : Nat → Int → Int → Mem → Option (Int × Mem)) (r20 : Nat → Int → Int → Int → Mem → Option (Int × Mem)) (l0 : Nat) (l1 : Int) (l2 : Int) (l3 : Int) (m : Mem) : Option (Int × Mem) :=
  if l1 ≤ l3 then (
    k87 l0 l1 l2 m
  ) else (
    if l2 = 0 then (
      k87 l0 l1 l2 m
    ) else (
      (getR 11 0 l0 m).bind fun t4 =>
      (aldI t4 l3 m).bind fun t5 =>
      (X11_isCell l0 t5 m).bind fun p6 =>
      X11_walked_L43 N (fun z14 z15 z16 z17 m18 =>
          r20 z14 z15 z16 (wI (z17 + 1)) m18) N l0 l1 p6 l3 0 m
    )
  )
def X11_walked_L20 (N : Nat) (k87 : Nat → Int → Int → Mem → Option (Int × Mem)) : Nat → Nat → Int → Int → Int → Mem → Option (Int × Mem)
  | 0 => fun _ _ _ _ _ => none
  | f + 1 => X11_walked_L20_b N k87 (X11_walked_L20 N k87 f)
def X11_walked_J139 (N : Nat) (r110 : Nat → Int → Int → Int → Int → Mem → Option (Int × Mem)) (l0 : Nat) (l1 : Int) (l3 : Int) (l5 : Int) (s0 : Int) (s1 : Int) (m : Mem) : Option (Int × Mem) :=
  r110 l0 l1 l3 (wI (s0 + s1)) (wI (l5 + 1)) m
def X11_walked_L110_b (N : Nat) (k148 : Nat → Int → Int → Int → Mem → Option (Int × Mem)) (r110 : Nat → Int → Int → Int → Int → Mem → Option (Int × Mem)) (l0 : Nat) (l1 : Int) (l3 : Int) (l4 : Int) (l5 : Int) (m : Mem) : Option (Int × Mem) :=
  if l1 ≤ l5 then (
    k148 l0 l1 l3 l4 m
  ) else (
    (getR 11 0 l0 m).bind fun t25 =>
    (aldI t25 l5 m).bind fun t26 =>
    (getR 11 0 l0 m).bind fun t27 =>
    (aldI t27 l3 m).bind fun t28 =>
    if t28 ≤ t26 then (
      X11_walked_J139 N r110 l0 l1 l3 l5 l4 0 m
    ) else (
      X11_walked_J139 N r110 l0 l1 l3 l5 l4 1 m
    )
  )
def X11_walked_L110 (N : Nat) (k148 : Nat → Int → Int → Int → Mem → Option (Int × Mem)) : Nat → Nat → Int → Int → Int → Int → Mem → Option (Int × Mem)
  | 0 => fun _ _ _ _ _ _ => none
  | f + 1 => X11_walked_L110_b N k148 (X11_walked_L110 N k148 f)
def X11_walked_L99_b (N : Nat) (k167 : Nat → Int → Mem → Option (Int × Mem)) (r99 : Nat → Int → Int → Mem → Option (Int × Mem)) (l0 : Nat) (l1 : Int) (l3 : Int) (m : Mem) : Option (Int × Mem) :=
  if l1 ≤ l3 then (
    k167 l0 l1 m
  ) else (
    X11_walked_L110 N (fun z31 z32 z33 z34 m35 =>
        (getR 11 74 z31 m35).bind fun t36 =>
        (getR 11 0 z31 m35).bind fun t37 =>
        (aldI t37 z33 m35).bind fun t38 =>
        (astI t36 z34 t38 m35).bind fun m39 =>
        r99 z31 z32 (wI (z33 + 1)) m39) N l0 l1 l3 0 0 m
  )
def X11_walked_L99 (N : Nat) (k167 : Nat → Int → Mem → Option (Int × Mem)) : Nat → Nat → Int → Int → Mem → Option (Int × Mem)
  | 0 => fun _ _ _ _ => none
  | f + 1 => X11_walked_L99_b N k167 (X11_walked_L99 N k167 f)
def X11_walked_J212 (N : Nat) (r177 : Nat → Int → Int → Int → Mem → Option (Int × Mem)) (l0 : Nat) (l1 : Int) (l4 : Int) (s0 : Int) (s1 : Int) (m : Mem) : Option (Int × Mem) :=
  r177 l0 l1 (wI (s0 + s1)) (wI (l4 + 1)) m
def X11_walked_L177_b (N : Nat) (k220 : Nat → Int → Int → Mem → Option (Int × Mem)) (r177 : Nat → Int → Int → Int → Mem → Option (Int × Mem)) (l0 : Nat) (l1 : Int) (l3 : Int) (l4 : Int) (m : Mem) : Option (Int × Mem) :=
  if l1 ≤ l4 then (
    k220 l0 l1 l3 m
  ) else (
    (X11_canBegin l0 l4 m).bind fun p45 =>
    if p45 = 0 then (
      X11_walked_J212 N r177 l0 l1 l4 l3 0 m
    ) else (
      (getR 11 75 l0 m).bind fun t46 =>
      (aldI t46 (wI ((wI (10 * (ishl 1 l4))) + l4)) m).bind fun t47 =>
      X11_walked_J212 N r177 l0 l1 l4 l3 t47 m
    )
  )
def X11_walked_L177 (N : Nat) (k220 : Nat → Int → Int → Mem → Option (Int × Mem)) : Nat → Nat → Int → Int → Int → Mem → Option (Int × Mem)
  | 0 => fun _ _ _ _ _ => none
  | f + 1 => X11_walked_L177_b N k220 (X11_walked_L177 N k220 f)
def X11_walked_J230 (N : Nat) (l0 : Nat) (l1 : Int) (l3 : Int) (s0 : Nat) (s1 : Int) (m : Mem) : Option (Int × Mem) :=
  (putI 11 72 s0 s1 m).bind fun m54 =>
  if l3 ≤ 0 then (
    some (l3, m54)
  ) else (
    (X11_findsFirst N l0 l1 m54).bind fun p55 =>
    some (l3, p55)
  )
def X11_walked (N : Nat) (l0 : Nat) (m : Mem) : Option (Int × Mem) :=
  if shK l0 = 11 + 10 then (
    (getI 11 1 l0 m).bind fun t1 =>
    (putI 11 1 l0 0 m).bind fun m2 =>
    (X11_is t1 2 10 m2).bind fun p3 =>
    X11_walked_L20 N (fun z21 z22 z23 m24 =>
        if ¬ z23 = 0 then (
          X11_walked_L99 N (fun z41 z42 m43 =>
              (X11_countsWays N z41 z42 m43).bind fun p44 =>
              X11_walked_L177 N (fun z50 z51 z52 m53 =>
                  if ¬ z52 = 0 then (
                    X11_walked_J230 N z50 z51 z52 z50 z51 m53
                  ) else (
                    X11_walked_J230 N z50 z51 z52 z50 0 m53
                  )) N z41 z42 0 0 p44) N z21 z22 0 m24
        ) else (
          (X11_refuses z21 5 m24).bind fun p58 =>
          some (p58.1, p58.2)
        )) N l0 t1 p3 0 m2
  ) else none
-- DewBaronModel.wall(IZ)Z
def X11_wall_J74 (N : Nat) (s0 : Nat) (s1 : Int) (s2 : Int) (m : Mem) : Option (Int × Mem) :=
  (astI s0 s1 s2 m).bind fun m4 =>
  (retZ 1).bind fun r5 => some (r5, m4)
def X11_wall_J37 (N : Nat) (l0 : Nat) (l1 : Int) (l2 : Int) (s0 : Int) (m : Mem) : Option (Int × Mem) :=
  if ¬ s0 = 0 then (
    (X11_keeps N l0 m).bind fun p2 =>
    (getR 11 51 l0 p2).bind fun t3 =>
    if l2 = 0 then (
      X11_wall_J74 N t3 l1 0 p2
    ) else (
      X11_wall_J74 N t3 l1 1 p2
    )
  ) else (
    (X11_refuses l0 2 m).bind fun p7 =>
    if p7.1 < 0 then (
      (retZ 0).bind fun r8 => some (r8, p7.2)
    ) else (
      (retZ 1).bind fun r9 => some (r9, p7.2)
    )
  )
def X11_wall_J36 (N : Nat) (l0 : Nat) (l1 : Int) (l2 : Int) (m : Mem) : Option (Int × Mem) :=
  X11_wall_J37 N l0 l1 l2 0 m
def X11_wall_J32 (N : Nat) (l0 : Nat) (l1 : Int) (l2 : Int) (m : Mem) : Option (Int × Mem) :=
  X11_wall_J37 N l0 l1 l2 1 m
def X11_wall (N : Nat) (l0 : Nat) (l1 : Int) (l2 : Int) (m : Mem) : Option (Int × Mem) :=
  if shK l0 = 11 + 10 then (
    (X11_isCell l0 l1 m).bind fun p1 =>
    if p1 = 0 then (
      X11_wall_J36 N l0 l1 l2 m
    ) else (
      if l2 = 0 then (
        (X11_isWall l0 0 l1 m).bind fun p12 =>
        if p12 = 0 then (
          X11_wall_J36 N l0 l1 l2 m
        ) else (
          X11_wall_J32 N l0 l1 l2 m
        )
      ) else (
        (X11_isFree N l0 l1 m).bind fun p14 =>
        if p14 = 0 then (
          X11_wall_J36 N l0 l1 l2 m
        ) else (
          X11_wall_J32 N l0 l1 l2 m
        )
      )
    )
  ) else none
-- DewBaronModel.whole(I)I
def X11_whole_L87_b (N : Nat) (k123 : Nat → Int → Int → Int → Int → Int → Int → Int → Mem → Option (Int × Mem)) (r87 : Nat → Int → Int → Int → Int → Int → Int → Int → Int → Mem → Option (Int × Mem)) (l0 : Nat) (l1 : Int) (l2 : Int) (l3 : Int) (l4 : Int) (l5 : Int) (l6 : Int) (l7 : Int) (l8 : Int) (m : Mem) : Option (Int × Mem) :=
  (getR 11 23 l0 m).bind fun t7 =>
  (getI 11 13 l0 m).bind fun t8 =>
  (aldI t7 t8 m).bind fun t9 =>
  if t9 ≤ l8 then (
    k123 l0 l1 l2 l3 l4 l5 l6 l7 m
  ) else (
    (getR 11 65 l0 m).bind fun t10 =>
    (aldI t10 (wI ((wI (10 * l7)) + l8)) m).bind fun t11 =>
    r87 l0 l1 l2 (wI (l3 + t11)) l4 l5 l6 l7 (wI (l8 + 1)) m
  )
def X11_whole_L87 (N : Nat) (k123 : Nat → Int → Int → Int → Int → Int → Int → Int → Mem → Option (Int × Mem)) : Nat → Nat → Int → Int → Int → Int → Int → Int → Int → Int → Mem → Option (Int × Mem)
  | 0 => fun _ _ _ _ _ _ _ _ _ _ => none
  | f + 1 => X11_whole_L87_b N k123 (X11_whole_L87 N k123 f)
def X11_whole_J84 (N : Nat) (r39 : Nat → Int → Int → Int → Int → Int → Int → Int → Mem → Option (Int × Mem)) (l0 : Nat) (l1 : Int) (l2 : Int) (l3 : Int) (l4 : Int) (l5 : Int) (l6 : Int) (l7 : Int) (m : Mem) : Option (Int × Mem) :=
  X11_whole_L87 N (fun z13 z14 z15 z16 z17 z18 z19 z20 m21 =>
      r39 z13 z14 z15 z16 z17 z18 z19 (wI (z20 + 1)) m21) N l0 l1 l2 l3 l4 l5 l6 l7 0 m
def X11_whole_J77 (N : Nat) (r39 : Nat → Int → Int → Int → Int → Int → Int → Int → Mem → Option (Int × Mem)) (l0 : Nat) (l1 : Int) (l2 : Int) (l3 : Int) (l4 : Int) (l5 : Int) (l6 : Int) (l7 : Int) (s0 : Int) (s1 : Int) (m : Mem) : Option (Int × Mem) :=
  if s0 ≤ s1 then (
    X11_whole_J84 N r39 l0 l1 l2 l3 l4 l5 l6 l7 m
  ) else (
    X11_whole_J84 N r39 l0 l1 l2 l3 l4 l7 l6 l7 m
  )
def X11_whole_L39_b (N : Nat) (k129 : Nat → Int → Int → Int → Int → Int → Int → Mem → Option (Int × Mem)) (r39 : Nat → Int → Int → Int → Int → Int → Int → Int → Mem → Option (Int × Mem)) (l0 : Nat) (l1 : Int) (l2 : Int) (l3 : Int) (l4 : Int) (l5 : Int) (l6 : Int) (l7 : Int) (m : Mem) : Option (Int × Mem) :=
  if 12 < l7 then (
    k129 l0 l1 l2 l3 l4 l5 l6 m
  ) else (
    (X11_cameIn N l0 l7 m).bind fun p4 =>
    (X11_cameIn N l0 l7 m).bind fun p5 =>
    if ¬ l5 = (-1) then (
      (X11_cameIn N l0 l5 m).bind fun p6 =>
      X11_whole_J77 N r39 l0 l1 (wI (l2 + p4)) l3 l4 l5 l6 l7 p5 p6 m
    ) else (
      X11_whole_J77 N r39 l0 l1 (wI (l2 + p4)) l3 l4 l5 l6 l7 p5 0 m
    )
  )
def X11_whole_L39 (N : Nat) (k129 : Nat → Int → Int → Int → Int → Int → Int → Mem → Option (Int × Mem)) : Nat → Nat → Int → Int → Int → Int → Int → Int → Int → Mem → Option (Int × Mem)
  | 0 => fun _ _ _ _ _ _ _ _ _ => none
  | f + 1 => X11_whole_L39_b N k129 (X11_whole_L39 N k129 f)
def X11_whole_J186 (N : Nat) (r132 : Nat → Int → Int → Int → Int → Int → Int → Int → Mem → Option (Int × Mem)) (l0 : Nat) (l1 : Int) (l2 : Int) (l3 : Int) (l4 : Int) (l5 : Int) (l6 : Int) (l7 : Int) (m : Mem) : Option (Int × Mem) :=
  r132 l0 l1 l2 l3 l4 l5 l6 (wI (l7 + 1)) m
def X11_whole_J179 (N : Nat) (r132 : Nat → Int → Int → Int → Int → Int → Int → Int → Mem → Option (Int × Mem)) (l0 : Nat) (l1 : Int) (l2 : Int) (l3 : Int) (l4 : Int) (l5 : Int) (l6 : Int) (l7 : Int) (s0 : Int) (s1 : Int) (m : Mem) : Option (Int × Mem) :=
  if s0 ≤ s1 then (
    X11_whole_J186 N r132 l0 l1 l2 l3 l4 l5 l6 l7 m
  ) else (
    X11_whole_J186 N r132 l0 l1 l2 l3 l4 l5 l7 l7 m
  )
def X11_whole_L132_b (N : Nat) (k192 : Int → Int → Int → Int → Int → Int → Mem → Option (Int × Mem)) (r132 : Nat → Int → Int → Int → Int → Int → Int → Int → Mem → Option (Int × Mem)) (l0 : Nat) (l1 : Int) (l2 : Int) (l3 : Int) (l4 : Int) (l5 : Int) (l6 : Int) (l7 : Int) (m : Mem) : Option (Int × Mem) :=
  (getR 11 23 l0 m).bind fun t33 =>
  (getI 11 13 l0 m).bind fun t34 =>
  (aldI t33 t34 m).bind fun t35 =>
  if t35 ≤ l7 then (
    k192 l1 l2 l3 l4 l5 l6 m
  ) else (
    (X11_dawnOf l0 l7 m).bind fun p36 =>
    (X11_dawnOf l0 l7 m).bind fun p37 =>
    if ¬ l6 = (-1) then (
      (X11_dawnOf l0 l6 m).bind fun p38 =>
      X11_whole_J179 N r132 l0 l1 l2 l3 (wI (l4 + p36)) l5 l6 l7 p37 p38 m
    ) else (
      X11_whole_J179 N r132 l0 l1 l2 l3 (wI (l4 + p36)) l5 l6 l7 p37 0 m
    )
  )
def X11_whole_L132 (N : Nat) (k192 : Int → Int → Int → Int → Int → Int → Mem → Option (Int × Mem)) : Nat → Nat → Int → Int → Int → Int → Int → Int → Int → Mem → Option (Int × Mem)
  | 0 => fun _ _ _ _ _ _ _ _ _ => none
  | f + 1 => X11_whole_L132_b N k192 (X11_whole_L132 N k192 f)
def X11_whole (N : Nat) (l0 : Nat) (l1 : Int) (m : Mem) : Option (Int × Mem) :=
  if shK l0 = 11 + 10 then (
    (X11_isIsland l0 m).bind fun p1 =>
    if p1 = 0 then (
      some ((-1), m)
    ) else (
      (X11_is l1 0 4 m).bind fun p2 =>
      if ¬ p2 = 0 then (
        (X11_nightAsTold N l0 0 m).bind fun p3 =>
        X11_whole_L39 N (fun z25 z26 z27 z28 z29 z30 z31 m32 =>
            X11_whole_L132 N (fun z42 z43 z44 z45 z46 z47 m48 =>
                if ¬ z42 = 0 then (
                  if ¬ z42 = 1 then (
                    if ¬ z42 = 2 then (
                      if ¬ z42 = 3 then (
                        some (z47, m48)
                      ) else (
                        some (z46, m48)
                      )
                    ) else (
                      some (z45, m48)
                    )
                  ) else (
                    some (z44, m48)
                  )
                ) else (
                  some (z43, m48)
                )) N z25 z26 z27 z28 z29 z30 z31 0 m32) N l0 l1 0 0 0 (-1) (-1) 1 p3
      ) else (
        some ((-1), m)
      )
    )
  ) else none
-- DewBaronModel.wrung()I
def X11_wrung_J86 (N : Nat) (r29 : Nat → Int → Int → Int → Int → Mem → Option (Int × Mem)) (l0 : Nat) (l1 : Int) (l2 : Int) (l3 : Int) (l4 : Int) (m : Mem) : Option (Int × Mem) :=
  r29 l0 l1 l2 l3 (wI (l4 + 1)) m
def X11_wrung_J69 (N : Nat) (r29 : Nat → Int → Int → Int → Int → Mem → Option (Int × Mem)) (l0 : Nat) (l1 : Int) (l3 : Int) (l4 : Int) (s0 : Int) (m : Mem) : Option (Int × Mem) :=
  if s0 = 0 then (
    X11_wrung_J86 N r29 l0 l1 s0 l3 l4 m
  ) else (
    (getR 11 0 l0 m).bind fun t6 =>
    (aldI t6 l4 m).bind fun t7 =>
    X11_wrung_J86 N r29 l0 l1 s0 (ior l3 (ishl 1 t7)) l4 m
  )
def X11_wrung_J68 (N : Nat) (r29 : Nat → Int → Int → Int → Int → Mem → Option (Int × Mem)) (l0 : Nat) (l1 : Int) (l3 : Int) (l4 : Int) (m : Mem) : Option (Int × Mem) :=
  X11_wrung_J69 N r29 l0 l1 l3 l4 0 m
def X11_wrung_L29_b (N : Nat) (k92 : Nat → Int → Int → Mem → Option (Int × Mem)) (r29 : Nat → Int → Int → Int → Int → Mem → Option (Int × Mem)) (l0 : Nat) (l1 : Int) (l2 : Int) (l3 : Int) (l4 : Int) (m : Mem) : Option (Int × Mem) :=
  if l1 ≤ l4 then (
    k92 l0 l1 l2 m
  ) else (
    if l2 = 0 then (
      k92 l0 l1 l2 m
    ) else (
      (getR 11 0 l0 m).bind fun t4 =>
      (aldI t4 l4 m).bind fun t5 =>
      if l1 ≤ t5 then (
        X11_wrung_J68 N r29 l0 l1 l3 l4 m
      ) else (
        (getR 11 0 l0 m).bind fun t9 =>
        (aldI t9 l4 m).bind fun t10 =>
        if ¬ (iand (ishr l3 t10) 1) = 0 then (
          X11_wrung_J68 N r29 l0 l1 l3 l4 m
        ) else (
          X11_wrung_J69 N r29 l0 l1 l3 l4 1 m
        )
      )
    )
  )
def X11_wrung_L29 (N : Nat) (k92 : Nat → Int → Int → Mem → Option (Int × Mem)) : Nat → Nat → Int → Int → Int → Int → Mem → Option (Int × Mem)
  | 0 => fun _ _ _ _ _ _ => none
  | f + 1 => X11_wrung_L29_b N k92 (X11_wrung_L29 N k92 f)
def X11_wrung_L105_b (N : Nat) (k131 : Nat → Int → Mem → Option (Int × Mem)) (r105 : Nat → Int → Int → Mem → Option (Int × Mem)) (l0 : Nat) (l1 : Int) (l4 : Int) (m : Mem) : Option (Int × Mem) :=
  if l1 ≤ l4 then (
    k131 l0 l1 m
  ) else (
    (getR 11 67 l0 m).bind fun t19 =>
    (getR 11 0 l0 m).bind fun t20 =>
    (aldI t20 l4 m).bind fun t21 =>
    (astI t19 l4 t21 m).bind fun m22 =>
    r105 l0 l1 (wI (l4 + 1)) m22
  )
def X11_wrung_L105 (N : Nat) (k131 : Nat → Int → Mem → Option (Int × Mem)) : Nat → Nat → Int → Int → Mem → Option (Int × Mem)
  | 0 => fun _ _ _ _ => none
  | f + 1 => X11_wrung_L105_b N k131 (X11_wrung_L105 N k131 f)
def X11_wrung_J23 (N : Nat) (l0 : Nat) (l1 : Int) (s0 : Int) (m : Mem) : Option (Int × Mem) :=
  X11_wrung_L29 N (fun z15 z16 z17 m18 =>
      if ¬ z17 = 0 then (
        X11_wrung_L105 N (fun z24 z25 m26 =>
            (X11_nightAsTold N z24 0 m26).bind fun p27 =>
            (X11_gotBy N z24 z25 p27).bind fun p28 =>
            some (p28, p27)) N z15 z16 0 m18
      ) else (
        (X11_refuses z15 5 m18).bind fun p29 =>
        some (p29.1, p29.2)
      )) N l0 l1 s0 0 0 m
def X11_wrung (N : Nat) (l0 : Nat) (m : Mem) : Option (Int × Mem) :=
  if shK l0 = 11 + 10 then (
    (getI 11 1 l0 m).bind fun t1 =>
    (putI 11 1 l0 0 m).bind fun m2 =>
    (X11_cloths N l0 m2).bind fun p3 =>
    if ¬ t1 = p3 then (
      X11_wrung_J23 N l0 t1 0 m2
    ) else (
      X11_wrung_J23 N l0 t1 1 m2
    )
  ) else none
