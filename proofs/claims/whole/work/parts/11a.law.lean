def sld (xs : Nat → Int) (LL : Nat) (i : Int) : Option Int := if 0 ≤ i ∧ i < LL then some (xs i.toNat) else none
def law_0 (N : Nat) (xs : Nat → Int) (LL : Nat) (kk : Int → Mem → Option Mem) (l3 : Int) (m : Mem) : Option Mem :=
  (sld xs LL (wI (l3 + 1))).bind fun t2 =>
  (sld xs LL (wI (l3 + 2))).bind fun t3 =>
  (sld xs LL (wI (l3 + 3))).bind fun t4 =>
  (sld xs LL (wI (l3 + 4))).bind fun t5 =>
  (sld xs LL (wI (l3 + 5))).bind fun t6 =>
  (X10_feed N 3 t2 t3 t4 t5 t6 m).bind fun p7 =>
  (sld xs LL (wI (l3 + 1))).bind fun t8 =>
  (sld xs LL (wI (l3 + 2))).bind fun t9 =>
  (sld xs LL (wI (l3 + 3))).bind fun t10 =>
  (sld xs LL (wI (l3 + 4))).bind fun t11 =>
  (sld xs LL (wI (l3 + 5))).bind fun t12 =>
  (X11_feed N 264 t8 t9 t10 t11 t12 p7.2).bind fun p13 =>
  if p7.1 = p13.1 then (
    kk l3 p13.2
  ) else (
    none
  )
def law_1 (N : Nat) (xs : Nat → Int) (LL : Nat) (kk : Int → Mem → Option Mem) (l3 : Int) (m : Mem) : Option Mem :=
  (sld xs LL (wI (l3 + 1))).bind fun t16 =>
  (X10_end 3 t16 m).bind fun p17 =>
  (sld xs LL (wI (l3 + 1))).bind fun t18 =>
  (X11_end 264 t18 p17.2).bind fun p19 =>
  if p17.1 = p19.1 then (
    kk l3 p19.2
  ) else (
    none
  )
def law_2 (N : Nat) (xs : Nat → Int) (LL : Nat) (kk : Int → Mem → Option Mem) (l3 : Int) (m : Mem) : Option Mem :=
  (X10_island N 3 m).bind fun p22 =>
  (X11_island N 264 p22.2).bind fun p23 =>
  if p22.1 = p23.1 then (
    kk l3 p23.2
  ) else (
    none
  )
def law_3 (N : Nat) (xs : Nat → Int) (LL : Nat) (kk : Int → Mem → Option Mem) (l3 : Int) (m : Mem) : Option Mem :=
  (sld xs LL (wI (l3 + 1))).bind fun t26 =>
  (X10_fault 3 t26 m).bind fun p27 =>
  (sld xs LL (wI (l3 + 1))).bind fun t28 =>
  (X11_fault 264 t28 m).bind fun p29 =>
  if p27 = p29 then (
    kk l3 m
  ) else (
    none
  )
def law_4 (N : Nat) (xs : Nat → Int) (LL : Nat) (kk : Int → Mem → Option Mem) (l3 : Int) (m : Mem) : Option Mem :=
  (sld xs LL (wI (l3 + 1))).bind fun t32 =>
  (X10_has N 3 t32 m).bind fun p33 =>
  (sld xs LL (wI (l3 + 1))).bind fun t34 =>
  (X11_has N 264 t34 m).bind fun p35 =>
  if p33 = p35 then (
    kk l3 m
  ) else (
    none
  )
def law_5 (N : Nat) (xs : Nat → Int) (LL : Nat) (kk : Int → Mem → Option Mem) (l3 : Int) (m : Mem) : Option Mem :=
  (sld xs LL (wI (l3 + 1))).bind fun t38 =>
  (sld xs LL (wI (l3 + 2))).bind fun t39 =>
  (sld xs LL (wI (l3 + 3))).bind fun t40 =>
  (X10_letter 3 t38 t39 t40 m).bind fun p41 =>
  (sld xs LL (wI (l3 + 1))).bind fun t42 =>
  (sld xs LL (wI (l3 + 2))).bind fun t43 =>
  (sld xs LL (wI (l3 + 3))).bind fun t44 =>
  (X11_letter N 264 t42 t43 t44 m).bind fun p45 =>
  if p41 = p45 then (
    kk l3 m
  ) else (
    none
  )
def law_6 (N : Nat) (xs : Nat → Int) (LL : Nat) (kk : Int → Mem → Option Mem) (l3 : Int) (m : Mem) : Option Mem :=
  (sld xs LL (wI (l3 + 1))).bind fun t48 =>
  (sld xs LL (wI (l3 + 2))).bind fun t49 =>
  (X10_cell N 3 t48 t49 m).bind fun p50 =>
  (sld xs LL (wI (l3 + 1))).bind fun t51 =>
  (sld xs LL (wI (l3 + 2))).bind fun t52 =>
  (X11_cell N 264 t51 t52 m).bind fun p53 =>
  if p50 = p53 then (
    kk l3 m
  ) else (
    none
  )
def law_7 (N : Nat) (xs : Nat → Int) (LL : Nat) (kk : Int → Mem → Option Mem) (l3 : Int) (m : Mem) : Option Mem :=
  (sld xs LL (wI (l3 + 1))).bind fun t56 =>
  (sld xs LL (wI (l3 + 2))).bind fun t57 =>
  (X10_thing N 3 t56 t57 m).bind fun p58 =>
  (sld xs LL (wI (l3 + 1))).bind fun t59 =>
  (sld xs LL (wI (l3 + 2))).bind fun t60 =>
  (X11_thing N 264 t59 t60 p58.2).bind fun p61 =>
  if p58.1 = p61.1 then (
    kk l3 p61.2
  ) else (
    none
  )
def law_8 (N : Nat) (xs : Nat → Int) (LL : Nat) (kk : Int → Mem → Option Mem) (l3 : Int) (m : Mem) : Option Mem :=
  (sld xs LL (wI (l3 + 1))).bind fun t64 =>
  (sld xs LL (wI (l3 + 2))).bind fun t65 =>
  (X10_cistern N 3 t64 t65 m).bind fun p66 =>
  (sld xs LL (wI (l3 + 1))).bind fun t67 =>
  (sld xs LL (wI (l3 + 2))).bind fun t68 =>
  (X11_cistern N 264 t67 t68 p66.2).bind fun p69 =>
  if p66.1 = p69.1 then (
    kk l3 p69.2
  ) else (
    none
  )
def law_9 (N : Nat) (xs : Nat → Int) (LL : Nat) (kk : Int → Mem → Option Mem) (l3 : Int) (m : Mem) : Option Mem :=
  (sld xs LL (wI (l3 + 1))).bind fun t72 =>
  (X10_sky 3 t72 m).bind fun p73 =>
  (sld xs LL (wI (l3 + 1))).bind fun t74 =>
  (X11_sky 264 t74 m).bind fun p75 =>
  if p73 = p75 then (
    kk l3 m
  ) else (
    none
  )
def law_10 (N : Nat) (xs : Nat → Int) (LL : Nat) (kk : Int → Mem → Option Mem) (l3 : Int) (m : Mem) : Option Mem :=
  (sld xs LL (wI (l3 + 1))).bind fun t78 =>
  (sld xs LL (wI (l3 + 2))).bind fun t79 =>
  (X10_cold N 3 t78 t79 m).bind fun p80 =>
  (sld xs LL (wI (l3 + 1))).bind fun t81 =>
  (sld xs LL (wI (l3 + 2))).bind fun t82 =>
  (X11_cold N 264 t81 t82 p80.2).bind fun p83 =>
  if p80.1 = p83.1 then (
    kk l3 p83.2
  ) else (
    none
  )
def law_11 (N : Nat) (xs : Nat → Int) (LL : Nat) (kk : Int → Mem → Option Mem) (l3 : Int) (m : Mem) : Option Mem :=
  (sld xs LL (wI (l3 + 1))).bind fun t86 =>
  (sld xs LL (wI (l3 + 2))).bind fun t87 =>
  (sld xs LL (wI (l3 + 3))).bind fun t88 =>
  (X10_dew N 3 t86 t87 t88 m).bind fun p89 =>
  (sld xs LL (wI (l3 + 1))).bind fun t90 =>
  (sld xs LL (wI (l3 + 2))).bind fun t91 =>
  (sld xs LL (wI (l3 + 3))).bind fun t92 =>
  (X11_dew N 264 t90 t91 t92 p89.2).bind fun p93 =>
  if p89.1 = p93.1 then (
    kk l3 p93.2
  ) else (
    none
  )
def law_12 (N : Nat) (xs : Nat → Int) (LL : Nat) (kk : Int → Mem → Option Mem) (l3 : Int) (m : Mem) : Option Mem :=
  (sld xs LL (wI (l3 + 1))).bind fun t96 =>
  (X10_whole N 3 t96 m).bind fun p97 =>
  (sld xs LL (wI (l3 + 1))).bind fun t98 =>
  (X11_whole N 264 t98 p97.2).bind fun p99 =>
  if p97.1 = p99.1 then (
    kk l3 p99.2
  ) else (
    none
  )
def law_13 (N : Nat) (xs : Nat → Int) (LL : Nat) (kk : Int → Mem → Option Mem) (l3 : Int) (m : Mem) : Option Mem :=
  (sld xs LL (wI (l3 + 1))).bind fun t102 =>
  (sld xs LL (wI (l3 + 2))).bind fun t103 =>
  (X10_hang N 3 t102 t103 m).bind fun p104 =>
  (sld xs LL (wI (l3 + 1))).bind fun t105 =>
  (sld xs LL (wI (l3 + 2))).bind fun t106 =>
  (X11_hang N 264 t105 t106 p104.2).bind fun p107 =>
  if p104.1 = p107.1 then (
    kk l3 p107.2
  ) else (
    none
  )
def law_14 (N : Nat) (xs : Nat → Int) (LL : Nat) (kk : Int → Mem → Option Mem) (l3 : Int) (m : Mem) : Option Mem :=
  (sld xs LL (wI (l3 + 1))).bind fun t110 =>
  (sld xs LL (wI (l3 + 2))).bind fun t111 =>
  if t111 = 0 then (
    (X10_wall N 3 t110 0 m).bind fun p112 =>
    (sld xs LL (wI (l3 + 1))).bind fun t113 =>
    (sld xs LL (wI (l3 + 2))).bind fun t114 =>
    if t114 = 0 then (
      (X11_wall N 264 t113 0 p112.2).bind fun p115 =>
      if p112.1 = p115.1 then (
        kk l3 p115.2
      ) else (
        none
      )
    ) else (
      (X11_wall N 264 t113 1 p112.2).bind fun p117 =>
      if p112.1 = p117.1 then (
        kk l3 p117.2
      ) else (
        none
      )
    )
  ) else (
    (X10_wall N 3 t110 1 m).bind fun p120 =>
    (sld xs LL (wI (l3 + 1))).bind fun t121 =>
    (sld xs LL (wI (l3 + 2))).bind fun t122 =>
    if t122 = 0 then (
      (X11_wall N 264 t121 0 p120.2).bind fun p123 =>
      if p120.1 = p123.1 then (
        kk l3 p123.2
      ) else (
        none
      )
    ) else (
      (X11_wall N 264 t121 1 p120.2).bind fun p125 =>
      if p120.1 = p125.1 then (
        kk l3 p125.2
      ) else (
        none
      )
    )
  )
def law_15 (N : Nat) (xs : Nat → Int) (LL : Nat) (kk : Int → Mem → Option Mem) (l3 : Int) (m : Mem) : Option Mem :=
  (X10_night N 3 m).bind fun p130 =>
  (X11_night N 264 p130.2).bind fun p131 =>
  if p130.1 = p131.1 then (
    kk l3 p131.2
  ) else (
    none
  )
def law_16 (N : Nat) (xs : Nat → Int) (LL : Nat) (kk : Int → Mem → Option Mem) (l3 : Int) (m : Mem) : Option Mem :=
  (sld xs LL (wI (l3 + 1))).bind fun t134 =>
  (X10_nights N 3 t134 m).bind fun p135 =>
  (sld xs LL (wI (l3 + 1))).bind fun t136 =>
  (X11_nights N 264 t136 p135.2).bind fun p137 =>
  if p135.1 = p137.1 then (
    kk l3 p137.2
  ) else (
    none
  )
def law_17 (N : Nat) (xs : Nat → Int) (LL : Nat) (kk : Int → Mem → Option Mem) (l3 : Int) (m : Mem) : Option Mem :=
  (X10_undo 3 m).bind fun p140 =>
  (X11_undo N 264 p140.2).bind fun p141 =>
  if p140.1 = p141.1 then (
    kk l3 p141.2
  ) else (
    none
  )
def law_18 (N : Nat) (xs : Nat → Int) (LL : Nat) (kk : Int → Mem → Option Mem) (l3 : Int) (m : Mem) : Option Mem :=
  (sld xs LL (wI (l3 + 1))).bind fun t144 =>
  (X10_seed 3 t144 m).bind fun p145 =>
  (sld xs LL (wI (l3 + 1))).bind fun t146 =>
  (X11_seed 264 t146 p145.2).bind fun p147 =>
  if p145.1 = p147.1 then (
    kk l3 p147.2
  ) else (
    none
  )
def law_19 (N : Nat) (xs : Nat → Int) (LL : Nat) (kk : Int → Mem → Option Mem) (l3 : Int) (m : Mem) : Option Mem :=
  (sld xs LL (wI (l3 + 1))).bind fun t150 =>
  (X10_order N 3 t150 m).bind fun p151 =>
  (sld xs LL (wI (l3 + 1))).bind fun t152 =>
  (X11_order N 264 t152 p151.2).bind fun p153 =>
  if p151.1 = p153.1 then (
    kk l3 p153.2
  ) else (
    none
  )
def law_20 (N : Nat) (xs : Nat → Int) (LL : Nat) (kk : Int → Mem → Option Mem) (l3 : Int) (m : Mem) : Option Mem :=
  (X10_wrung N 3 m).bind fun p156 =>
  (X11_wrung N 264 p156.2).bind fun p157 =>
  if p156.1 = p157.1 then (
    kk l3 p157.2
  ) else (
    none
  )
def law_21 (N : Nat) (xs : Nat → Int) (LL : Nat) (kk : Int → Mem → Option Mem) (l3 : Int) (m : Mem) : Option Mem :=
  (sld xs LL (wI (l3 + 1))).bind fun t160 =>
  (sld xs LL (wI (l3 + 2))).bind fun t161 =>
  (X10_alike N 3 t160 t161 m).bind fun p162 =>
  (sld xs LL (wI (l3 + 1))).bind fun t163 =>
  (sld xs LL (wI (l3 + 2))).bind fun t164 =>
  (X11_alike N 264 t163 t164 p162.2).bind fun p165 =>
  if p162.1 = p165.1 then (
    kk l3 p165.2
  ) else (
    none
  )
def law_22 (N : Nat) (xs : Nat → Int) (LL : Nat) (kk : Int → Mem → Option Mem) (l3 : Int) (m : Mem) : Option Mem :=
  (sld xs LL (wI (l3 + 1))).bind fun t168 =>
  (sld xs LL (wI (l3 + 2))).bind fun t169 =>
  (X10_linen N 3 t168 t169 m).bind fun p170 =>
  (sld xs LL (wI (l3 + 1))).bind fun t171 =>
  (sld xs LL (wI (l3 + 2))).bind fun t172 =>
  (X11_linen N 264 t171 t172 p170.2).bind fun p173 =>
  if p170.1 = p173.1 then (
    kk l3 p173.2
  ) else (
    none
  )
def law_23 (N : Nat) (xs : Nat → Int) (LL : Nat) (kk : Int → Mem → Option Mem) (l3 : Int) (m : Mem) : Option Mem :=
  (sld xs LL (wI (l3 + 1))).bind fun t176 =>
  (sld xs LL (wI (l3 + 2))).bind fun t177 =>
  (X10_down N 3 t176 t177 m).bind fun p178 =>
  (sld xs LL (wI (l3 + 1))).bind fun t179 =>
  (sld xs LL (wI (l3 + 2))).bind fun t180 =>
  (X11_down N 264 t179 t180 p178.2).bind fun p181 =>
  if p178.1 = p181.1 then (
    kk l3 p181.2
  ) else (
    none
  )
def law_24 (N : Nat) (xs : Nat → Int) (LL : Nat) (kk : Int → Mem → Option Mem) (l3 : Int) (m : Mem) : Option Mem :=
  (sld xs LL (wI (l3 + 1))).bind fun t184 =>
  (X10_best N 3 t184 m).bind fun p185 =>
  (sld xs LL (wI (l3 + 1))).bind fun t186 =>
  (X11_best N 264 t186 p185.2).bind fun p187 =>
  if p185.1 = p187.1 then (
    kk l3 p187.2
  ) else (
    none
  )
def law_25 (N : Nat) (xs : Nat → Int) (LL : Nat) (kk : Int → Mem → Option Mem) (l3 : Int) (m : Mem) : Option Mem :=
  (sld xs LL (wI (l3 + 1))).bind fun t190 =>
  (sld xs LL (wI (l3 + 2))).bind fun t191 =>
  (X10_votes N 3 t190 t191 m).bind fun p192 =>
  (sld xs LL (wI (l3 + 1))).bind fun t193 =>
  (sld xs LL (wI (l3 + 2))).bind fun t194 =>
  (X11_votes N 264 t193 t194 p192.2).bind fun p195 =>
  if p192.1 = p195.1 then (
    kk l3 p195.2
  ) else (
    none
  )
def law_26 (N : Nat) (xs : Nat → Int) (LL : Nat) (kk : Int → Mem → Option Mem) (l3 : Int) (m : Mem) : Option Mem :=
  (X10_walked N 3 m).bind fun p198 =>
  (X11_walked N 264 p198.2).bind fun p199 =>
  if p198.1 = p199.1 then (
    kk l3 p199.2
  ) else (
    none
  )
def law_27 (N : Nat) (xs : Nat → Int) (LL : Nat) (kk : Int → Mem → Option Mem) (l3 : Int) (m : Mem) : Option Mem :=
  (sld xs LL (wI (l3 + 1))).bind fun t202 =>
  (X10_walk 3 t202 m).bind fun p203 =>
  (sld xs LL (wI (l3 + 1))).bind fun t204 =>
  (X11_walk 264 t204 m).bind fun p205 =>
  if p203 = p205 then (
    kk l3 m
  ) else (
    none
  )
def law_28 (N : Nat) (xs : Nat → Int) (LL : Nat) (kk : Int → Mem → Option Mem) (l3 : Int) (m : Mem) : Option Mem :=
  (sld xs LL (wI (l3 + 1))).bind fun t208 =>
  (X10_stores N 3 t208 m).bind fun p209 =>
  (sld xs LL (wI (l3 + 1))).bind fun t210 =>
  (X11_stores N 264 t210 p209.2).bind fun p211 =>
  if p209.1 = p211.1 then (
    kk l3 p211.2
  ) else (
    none
  )
def law_29 (N : Nat) (xs : Nat → Int) (LL : Nat) (kk : Int → Mem → Option Mem) (l3 : Int) (m : Mem) : Option Mem :=
  (X10_image N 3 m).bind fun p214 =>
  (X11_image N 264 p214.2).bind fun p215 =>
  if p214.1 = p215.1 then (
    kk l3 p215.2
  ) else (
    none
  )
def law_30 (N : Nat) (xs : Nat → Int) (LL : Nat) (kk : Int → Mem → Option Mem) (l3 : Int) (m : Mem) : Option Mem :=
  (sld xs LL (wI (l3 + 1))).bind fun t218 =>
  (X10_octet 3 t218 m).bind fun p219 =>
  (sld xs LL (wI (l3 + 1))).bind fun t220 =>
  (X11_octet 264 t220 m).bind fun p221 =>
  if p219 = p221 then (
    kk l3 m
  ) else (
    none
  )
def law_31 (N : Nat) (xs : Nat → Int) (LL : Nat) (kk : Int → Mem → Option Mem) (l3 : Int) (m : Mem) : Option Mem :=
  (X10_on N 3 m).bind fun p224 =>
  (X11_on N 264 p224.2).bind fun p225 =>
  if p224.1 = p225.1 then (
    kk l3 p225.2
  ) else (
    none
  )
def law_32 (N : Nat) (xs : Nat → Int) (LL : Nat) (kk : Int → Mem → Option Mem) (l3 : Int) (m : Mem) : Option Mem :=
  (sld xs LL (wI (l3 + 1))).bind fun t228 =>
  (X10_status 3 t228 m).bind fun p229 =>
  (sld xs LL (wI (l3 + 1))).bind fun t230 =>
  (X11_status 264 t230 m).bind fun p231 =>
  if p229 = p231 then (
    kk l3 m
  ) else (
    none
  )
def law_b (N : Nat) (xs : Nat → Int) (LL : Nat) (kk : Int → Mem → Option Mem) (l3 : Int) (m : Mem) : Option Mem :=
  if (wI ((LL : Int) - 6)) < l3 then (
    some m
  ) else (
    (sld xs LL l3).bind fun t1 =>
    if (iand t1 63) = 0 then law_0 N xs LL kk l3 m else
    if (iand t1 63) = 1 then law_1 N xs LL kk l3 m else
    if (iand t1 63) = 2 then law_2 N xs LL kk l3 m else
    if (iand t1 63) = 3 then law_3 N xs LL kk l3 m else
    if (iand t1 63) = 4 then law_4 N xs LL kk l3 m else
    if (iand t1 63) = 5 then law_5 N xs LL kk l3 m else
    if (iand t1 63) = 6 then law_6 N xs LL kk l3 m else
    if (iand t1 63) = 7 then law_7 N xs LL kk l3 m else
    if (iand t1 63) = 8 then law_8 N xs LL kk l3 m else
    if (iand t1 63) = 9 then law_9 N xs LL kk l3 m else
    if (iand t1 63) = 10 then law_10 N xs LL kk l3 m else
    if (iand t1 63) = 11 then law_11 N xs LL kk l3 m else
    if (iand t1 63) = 12 then law_12 N xs LL kk l3 m else
    if (iand t1 63) = 13 then law_13 N xs LL kk l3 m else
    if (iand t1 63) = 14 then law_14 N xs LL kk l3 m else
    if (iand t1 63) = 15 then law_15 N xs LL kk l3 m else
    if (iand t1 63) = 16 then law_16 N xs LL kk l3 m else
    if (iand t1 63) = 17 then law_17 N xs LL kk l3 m else
    if (iand t1 63) = 18 then law_18 N xs LL kk l3 m else
    if (iand t1 63) = 19 then law_19 N xs LL kk l3 m else
    if (iand t1 63) = 20 then law_20 N xs LL kk l3 m else
    if (iand t1 63) = 21 then law_21 N xs LL kk l3 m else
    if (iand t1 63) = 22 then law_22 N xs LL kk l3 m else
    if (iand t1 63) = 23 then law_23 N xs LL kk l3 m else
    if (iand t1 63) = 24 then law_24 N xs LL kk l3 m else
    if (iand t1 63) = 25 then law_25 N xs LL kk l3 m else
    if (iand t1 63) = 26 then law_26 N xs LL kk l3 m else
    if (iand t1 63) = 27 then law_27 N xs LL kk l3 m else
    if (iand t1 63) = 28 then law_28 N xs LL kk l3 m else
    if (iand t1 63) = 29 then law_29 N xs LL kk l3 m else
    if (iand t1 63) = 30 then law_30 N xs LL kk l3 m else
    if (iand t1 63) = 31 then law_31 N xs LL kk l3 m else
    if (iand t1 63) = 32 then law_32 N xs LL kk l3 m else
    kk l3 m
  )
def law_L (N : Nat) (xs : Nat → Int) (LL : Nat) : Nat → Int → Mem → Option Mem
  | 0 => fun _ _ => none
  | f + 1 => law_b N xs LL (fun l3 m => law_L N xs LL f (wI (l3 + 6)) m)
