theorem fl_X5_9 : Cond.fieldLink RX5 9 (TX5 0).1 (TX5 0).2.1 (TX5 0).2.2.1 ∈ tb := tbi_1 (i := 216) rfl rfl
theorem fl_X5_15 : Cond.fieldLink RX5 15 (TX5 1).1 (TX5 1).2.1 (TX5 1).2.2.1 ∈ tb := tbi_1 (i := 219) rfl rfl
theorem fl_X1_9 : Cond.fieldLink RX1 9 (TX1 0).1 (TX1 0).2.1 (TX1 0).2.2.1 ∈ tb := tbi_1 (i := 169) rfl rfl
theorem vl_X5_118 : VL RX5 118 yX5_isCell cX5_isCell 2 (some .boolean) 1 := ⟨tbi_3 (i := 218) rfl rfl, tbi_3 (i := 207) rfl rfl, tbi_3 (i := 208) rfl rfl, tbi_1 (i := 8) rfl rfl, tbi_3 (i := 209) rfl rfl, ⟨by decide +kernel, by decide +kernel, by decide +kernel⟩, by decide⟩
theorem fl_X5_20 : Cond.fieldLink RX5 20 (TX5 2).1 (TX5 2).2.1 (TX5 2).2.2.1 ∈ tb := tbi_1 (i := 222) rfl rfl
theorem vl_X5_125 : VL RX5 125 yX1_hasWall cX1_hasWall 2 (some .boolean) 1 := ⟨tbi_3 (i := 214) rfl rfl, tbi_3 (i := 215) rfl rfl, tbi_3 (i := 216) rfl rfl, tbi_1 (i := 9) rfl rfl, tbi_3 (i := 217) rfl rfl, ⟨by decide +kernel, by decide +kernel, by decide +kernel⟩, by decide⟩
theorem fl_X5_23 : Cond.fieldLink RX5 23 (TX5 3).1 (TX5 3).2.1 (TX5 3).2.2.1 ∈ tb := tbi_1 (i := 223) rfl rfl
theorem fl_X3_18 : Cond.fieldLink RX3 18 (TX3 2).1 (TX3 2).2.1 (TX3 2).2.2.1 ∈ tb := tbi_2 (i := 110) rfl rfl
theorem fl_X3_21 : Cond.fieldLink RX3 21 (TX3 3).1 (TX3 3).2.1 (TX3 3).2.2.1 ∈ tb := tbi_2 (i := 111) rfl rfl
theorem sl_X3_59 : SL RX3 59 yJ7_fill_53178 cJ7_fill_53178 4 none 2 := ⟨tbi_4 (i := 163) rfl rfl, tbi_3 (i := 114) rfl rfl, tbi_1 (i := 17) rfl rfl, tbi_3 (i := 115) rfl rfl, ⟨by decide +kernel, by decide +kernel, by decide +kernel⟩, by decide⟩
theorem vl_X3_91 : VL RX3 91 yX5_cells cX5_cells 1 (some .int) 0 := ⟨tbi_4 (i := 164) rfl rfl, tbi_4 (i := 165) rfl rfl, tbi_4 (i := 166) rfl rfl, tbi_1 (i := 8) rfl rfl, tbi_4 (i := 167) rfl rfl, ⟨by decide +kernel, by decide +kernel, by decide +kernel⟩, by decide⟩
theorem vl_X3_95 : VL RX3 95 yX5_lower cX5_lower 7 (some .int) 2 := ⟨tbi_4 (i := 168) rfl rfl, tbi_4 (i := 169) rfl rfl, tbi_4 (i := 170) rfl rfl, tbi_1 (i := 8) rfl rfl, tbi_4 (i := 171) rfl rfl, ⟨by decide +kernel, by decide +kernel, by decide +kernel⟩, by decide⟩
theorem vl_X3_98 : VL RX3 98 yX1_hasWall cX1_hasWall 2 (some .boolean) 1 := ⟨tbi_4 (i := 172) rfl rfl, tbi_3 (i := 215) rfl rfl, tbi_3 (i := 216) rfl rfl, tbi_1 (i := 9) rfl rfl, tbi_3 (i := 217) rfl rfl, ⟨by decide +kernel, by decide +kernel, by decide +kernel⟩, by decide⟩
theorem vl_X3_101 : VL RX3 101 yX3_poolOf cX3_poolOf 4 (some .int) 1 := ⟨tbi_4 (i := 173) rfl rfl, tbi_4 (i := 175) rfl rfl, tbs (i := 39) (by decide +kernel) rfl, tbi_1 (i := 12) rfl rfl, tbi_4 (i := 176) rfl rfl, ⟨by decide +kernel, by decide +kernel, by decide +kernel⟩, by decide⟩
theorem fl_X3_15 : Cond.fieldLink RX3 15 (TX3 1).1 (TX3 1).2.1 (TX3 1).2.2.1 ∈ tb := tbi_2 (i := 109) rfl rfl
theorem fl_X3_9 : Cond.fieldLink RX3 9 (TX3 0).1 (TX3 0).2.1 (TX3 0).2.2.1 ∈ tb := tbi_2 (i := 108) rfl rfl
theorem fl_X5_27 : Cond.fieldLink RX5 27 (TX5 4).1 (TX5 4).2.1 (TX5 4).2.2.1 ∈ tb := tbi_1 (i := 227) rfl rfl
theorem fl_X3_26 : Cond.fieldLink RX3 26 (TX3 4).1 (TX3 4).2.1 (TX3 4).2.2.1 ∈ tb := tbi_2 (i := 112) rfl rfl
theorem fl_X7_25 : Cond.fieldLink RX7 25 (TX7 4).1 (TX7 4).2.1 (TX7 4).2.2.1 ∈ tb := tbi_1 (i := 201) rfl rfl
theorem fl_X7_22 : Cond.fieldLink RX7 22 (TX7 3).1 (TX7 3).2.1 (TX7 3).2.2.1 ∈ tb := tbi_1 (i := 200) rfl rfl
theorem ml_X7_59 : ML RX7 59 Lib.MathLoose.max_long.x Lib.MathLoose.max_long.code 4 (some .long) := ⟨tbi_4 (i := 212) rfl rfl, tbi_4 (i := 213) rfl rfl, tbi_1 (i := 19) rfl rfl, tbi_4 (i := 214) rfl rfl⟩
theorem ml_X7_53 : ML RX7 53 Lib.MathLoose.min_long.x Lib.MathLoose.min_long.code 4 (some .long) := ⟨tbi_4 (i := 209) rfl rfl, tbi_4 (i := 210) rfl rfl, tbi_1 (i := 19) rfl rfl, tbi_4 (i := 211) rfl rfl⟩
theorem sl_X7_62 : SL RX7 62 yJ9_floorDiv_f86c9 cJ9_floorDiv_f86c9 6 (some .long) 2 := ⟨tbi_4 (i := 203) rfl rfl, tbi_4 (i := 204) rfl rfl, tbi_1 (i := 19) rfl rfl, tbi_4 (i := 205) rfl rfl, ⟨by decide +kernel, by decide +kernel, by decide +kernel⟩, by decide⟩
theorem sl_X7_65 : SL RX7 65 yJ9_floorMod_f86c9 cJ9_floorMod_f86c9 6 (some .long) 2 := ⟨tbi_4 (i := 206) rfl rfl, tbi_4 (i := 207) rfl rfl, tbi_1 (i := 19) rfl rfl, tbi_4 (i := 208) rfl rfl, ⟨by decide +kernel, by decide +kernel, by decide +kernel⟩, by decide⟩
theorem vl_X7_37 : VL RX7 37 yX7_isTold cX7_isTold 2 (some .boolean) 1 := ⟨tbi_4 (i := 196) rfl rfl, tbi_3 (i := 194) rfl rfl, tbi_3 (i := 195) rfl rfl, tbi_1 (i := 10) rfl rfl, tbi_3 (i := 196) rfl rfl, ⟨by decide +kernel, by decide +kernel, by decide +kernel⟩, by decide⟩
theorem fl_X7_9 : Cond.fieldLink RX7 9 (TX7 0).1 (TX7 0).2.1 (TX7 0).2.2.1 ∈ tb := tbi_1 (i := 197) rfl rfl
theorem fl_X7_28 : Cond.fieldLink RX7 28 (TX7 5).1 (TX7 5).2.1 (TX7 5).2.2.1 ∈ tb := tbi_1 (i := 202) rfl rfl
theorem sl_X7_45 : SL RX7 45 yX7_join cX7_join 5 (some .long) 3 := ⟨tbi_4 (i := 200) rfl rfl, tbi_4 (i := 201) rfl rfl, tbi_1 (i := 10) rfl rfl, tbi_4 (i := 202) rfl rfl, ⟨by decide +kernel, by decide +kernel, by decide +kernel⟩, by decide⟩
theorem k_X7_49 : Cond.constantLong RX7 49 (-1000000) ∈ tb := tbi_4 (i := 215) rfl rfl
theorem k_X7_51 : Cond.constantLong RX7 51 (1000000) ∈ tb := tbi_4 (i := 216) rfl rfl
theorem sl_X7_41 : SL RX7 41 yX7_factAt cX7_factAt 2 (some .int) 2 := ⟨tbi_4 (i := 197) rfl rfl, tbi_4 (i := 198) rfl rfl, tbi_1 (i := 10) rfl rfl, tbi_4 (i := 199) rfl rfl, ⟨by decide +kernel, by decide +kernel, by decide +kernel⟩, by decide⟩
theorem ml_X10_435 : ML RX10 435 Lib.Math.min.name Lib.Math.min.code 2 (some .int) := ⟨tbi_4 (i := 220) rfl rfl, tbi_4 (i := 156) rfl rfl, tbi_1 (i := 19) rfl rfl, tbi_4 (i := 157) rfl rfl⟩
theorem ml_X10_378 : ML RX10 378 Lib.Math.max.name Lib.Math.max.code 2 (some .int) := ⟨tbi_4 (i := 221) rfl rfl, tbi_4 (i := 222) rfl rfl, tbi_1 (i := 19) rfl rfl, tbi_4 (i := 223) rfl rfl⟩
theorem vl_X3_104 : VL RX3 104 yX5_isCell cX5_isCell 2 (some .boolean) 1 := ⟨tbi_4 (i := 181) rfl rfl, tbi_3 (i := 207) rfl rfl, tbi_3 (i := 208) rfl rfl, tbi_1 (i := 8) rfl rfl, tbi_3 (i := 209) rfl rfl, ⟨by decide +kernel, by decide +kernel, by decide +kernel⟩, by decide⟩
theorem vl_X3_107 : VL RX3 107 yX5_openness cX5_openness 5 (some .int) 2 := ⟨tbi_4 (i := 182) rfl rfl, tbi_4 (i := 117) rfl rfl, tbi_4 (i := 118) rfl rfl, tbi_1 (i := 8) rfl rfl, tbi_4 (i := 119) rfl rfl, ⟨by decide +kernel, by decide +kernel, by decide +kernel⟩, by decide⟩
theorem fl_X3_110 : Cond.fieldLink RX3 110 (TX5 3).1 (TX5 3).2.1 (TX5 3).2.2.1 ∈ tb := tbi_1 (i := 224) rfl rfl
theorem vl_X3_113 : VL RX3 113 yX5_housesBy cX5_housesBy 5 (some .int) 1 := ⟨tbi_4 (i := 183) rfl rfl, tbi_4 (i := 121) rfl rfl, tbi_4 (i := 122) rfl rfl, tbi_1 (i := 8) rfl rfl, tbi_4 (i := 123) rfl rfl, ⟨by decide +kernel, by decide +kernel, by decide +kernel⟩, by decide⟩
theorem vl_X3_116 : VL RX3 116 yX3_coldIn cX3_coldIn 4 (some .int) 2 := ⟨tbi_4 (i := 184) rfl rfl, tbi_4 (i := 185) rfl rfl, tbi_4 (i := 186) rfl rfl, tbi_1 (i := 12) rfl rfl, tbi_4 (i := 187) rfl rfl, ⟨by decide +kernel, by decide +kernel, by decide +kernel⟩, by decide⟩
theorem vl_X3_119 : VL RX3 119 yX3_lookUp cX3_lookUp 3 none 2 := ⟨tbi_4 (i := 188) rfl rfl, tbi_4 (i := 190) rfl rfl, tbs (i := 40) (by decide +kernel) rfl, tbi_1 (i := 12) rfl rfl, tbi_4 (i := 191) rfl rfl, ⟨by decide +kernel, by decide +kernel, by decide +kernel⟩, by decide⟩
theorem fl_X3_31 : Cond.fieldLink RX3 31 (TX3 5).1 (TX3 5).2.1 (TX3 5).2.2.1 ∈ tb := tbi_2 (i := 113) rfl rfl
theorem fl_X3_123 : Cond.fieldLink RX3 123 (TX5 16).1 (TX5 16).2.1 (TX5 16).2.2.1 ∈ tb := tbi_2 (i := 26) rfl rfl
theorem vl_X3_127 : VL RX3 127 yX7_worth cX7_worth 8 (some .int) 2 := ⟨tbi_4 (i := 192) rfl rfl, tbi_4 (i := 193) rfl rfl, tbi_4 (i := 194) rfl rfl, tbi_1 (i := 10) rfl rfl, tbi_4 (i := 195) rfl rfl, ⟨by decide +kernel, by decide +kernel, by decide +kernel⟩, by decide⟩
theorem nl_X3_131 : SNL RX3 131 yX10_within "DewBaron" cX10_within 3 (some .int) 3 := ⟨xni_4 (i := 217) rfl rfl, tbi_4 (i := 218) rfl rfl, tbi_1 (i := 1) rfl rfl, tbi_4 (i := 219) rfl rfl, ⟨by decide +kernel, by decide +kernel, by decide +kernel⟩, by decide⟩
theorem fl_X3_34 : Cond.fieldLink RX3 34 (TX3 6).1 (TX3 6).2.1 (TX3 6).2.2.1 ∈ tb := tbi_2 (i := 115) rfl rfl
theorem fl_X3_37 : Cond.fieldLink RX3 37 (TX3 7).1 (TX3 7).2.1 (TX3 7).2.2.1 ∈ tb := tbi_2 (i := 117) rfl rfl
theorem vl_X5_93 : VL RX5 93 yX5_acrossOf cX5_acrossOf 2 (some .int) 1 := ⟨tbi_3 (i := 154) rfl rfl, tbi_3 (i := 156) rfl rfl, tbs (i := 14) (by decide +kernel) rfl, tbi_1 (i := 8) rfl rfl, tbi_3 (i := 157) rfl rfl, ⟨by decide +kernel, by decide +kernel, by decide +kernel⟩, by decide⟩
theorem ml_X5_113 : ML RX5 113 Lib.Math.abs.name Lib.Math.abs.code 1 (some .int) := ⟨tbi_4 (i := 144) rfl rfl, tbi_4 (i := 145) rfl rfl, tbi_1 (i := 19) rfl rfl, tbi_4 (i := 146) rfl rfl⟩
theorem vl_X5_100 : VL RX5 100 yX5_downOf cX5_downOf 2 (some .int) 1 := ⟨tbi_3 (i := 160) rfl rfl, tbi_3 (i := 162) rfl rfl, tbs (i := 15) (by decide +kernel) rfl, tbi_1 (i := 8) rfl rfl, tbi_3 (i := 163) rfl rfl, ⟨by decide +kernel, by decide +kernel, by decide +kernel⟩, by decide⟩
theorem fl_X5_37 : Cond.fieldLink RX5 37 (TX5 6).1 (TX5 6).2.1 (TX5 6).2.2.1 ∈ tb := tbi_1 (i := 232) rfl rfl
theorem fl_X5_40 : Cond.fieldLink RX5 40 (TX5 7).1 (TX5 7).2.1 (TX5 7).2.2.1 ∈ tb := tbi_1 (i := 237) rfl rfl
theorem vl_X5_122 : VL RX5 122 yX5_steps cX5_steps 3 (some .int) 2 := ⟨tbi_4 (i := 140) rfl rfl, tbi_4 (i := 142) rfl rfl, tbs (i := 36) (by decide +kernel) rfl, tbi_1 (i := 8) rfl rfl, tbi_4 (i := 143) rfl rfl, ⟨by decide +kernel, by decide +kernel, by decide +kernel⟩, by decide⟩
theorem ml_X3_43 : ML RX3 43 Lib.Math.min.name Lib.Math.min.code 2 (some .int) := ⟨tbi_4 (i := 155) rfl rfl, tbi_4 (i := 156) rfl rfl, tbi_1 (i := 19) rfl rfl, tbi_4 (i := 157) rfl rfl⟩
theorem al_X3_49 : AL RX3 49 := ⟨tbi_4 (i := 158) rfl rfl, tbi_4 (i := 68) rfl rfl, tbi_4 (i := 67) rfl rfl, tbi_1 (i := 18) rfl rfl⟩
theorem vl_X3_55 : VL RX3 55 yX3_chill cX3_chill 4 none 2 := ⟨tbi_4 (i := 159) rfl rfl, tbi_4 (i := 161) rfl rfl, tbs (i := 38) (by decide +kernel) rfl, tbi_1 (i := 12) rfl rfl, tbi_4 (i := 162) rfl rfl, ⟨by decide +kernel, by decide +kernel, by decide +kernel⟩, by decide⟩
theorem fl_X3_40 : Cond.fieldLink RX3 40 (TX3 8).1 (TX3 8).2.1 (TX3 8).2.2.1 ∈ tb := tbi_2 (i := 119) rfl rfl
theorem fl_X3_65 : Cond.fieldLink RX3 65 (TX5 9).1 (TX5 9).2.1 (TX5 9).2.2.1 ∈ tb := tbi_2 (i := 2) rfl rfl
theorem fl_X3_71 : Cond.fieldLink RX3 71 (TX1 1).1 (TX1 1).2.1 (TX1 1).2.2.1 ∈ tb := tbi_1 (i := 173) rfl rfl
theorem fl_X3_76 : Cond.fieldLink RX3 76 (TX5 10).1 (TX5 10).2.1 (TX5 10).2.2.1 ∈ tb := tbi_2 (i := 6) rfl rfl
theorem vl_X3_79 : VL RX3 79 yX3_lie cX3_lie 8 (some .int) 5 := ⟨tbi_4 (i := 177) rfl rfl, tbi_4 (i := 178) rfl rfl, tbi_4 (i := 179) rfl rfl, tbi_1 (i := 12) rfl rfl, tbi_4 (i := 180) rfl rfl, ⟨by decide +kernel, by decide +kernel, by decide +kernel⟩, by decide⟩
theorem vl_X3_83 : VL RX3 83 yX5_nearest cX5_nearest 6 (some .int) 1 := ⟨tbi_4 (i := 224) rfl rfl, tbi_4 (i := 137) rfl rfl, tbi_4 (i := 138) rfl rfl, tbi_1 (i := 8) rfl rfl, tbi_4 (i := 139) rfl rfl, ⟨by decide +kernel, by decide +kernel, by decide +kernel⟩, by decide⟩
theorem vl_X3_87 : VL RX3 87 yX5_isCistern cX5_isCistern 2 (some .boolean) 1 := ⟨tbi_4 (i := 225) rfl rfl, tbi_4 (i := 100) rfl rfl, tbi_4 (i := 101) rfl rfl, tbi_1 (i := 8) rfl rfl, tbi_4 (i := 102) rfl rfl, ⟨by decide +kernel, by decide +kernel, by decide +kernel⟩, by decide⟩
theorem fl_X10_67 : Cond.fieldLink RX10 67 (TX10 12).1 (TX10 12).2.1 (TX10 12).2.2.1 ∈ tb := tbi_2 (i := 239) rfl rfl
theorem fl_X10_57 : Cond.fieldLink RX10 57 (TX10 9).1 (TX10 9).2.1 (TX10 9).2.2.1 ∈ tb := tbi_2 (i := 236) rfl rfl
theorem fl_X10_27 : Cond.fieldLink RX10 27 (TX10 3).1 (TX10 3).2.1 (TX10 3).2.2.1 ∈ tb := tbi_2 (i := 230) rfl rfl
theorem fl_X10_37 : Cond.fieldLink RX10 37 (TX10 5).1 (TX10 5).2.1 (TX10 5).2.2.1 ∈ tb := tbi_2 (i := 232) rfl rfl
theorem fl_X10_248 : Cond.fieldLink RX10 248 (TX5 15).1 (TX5 15).2.1 (TX5 15).2.2.1 ∈ tb := tbi_2 (i := 22) rfl rfl
theorem vl_X10_310 : VL RX10 310 yX3_pass cX3_pass 7 none 3 := ⟨tbi_4 (i := 151) rfl rfl, tbi_4 (i := 152) rfl rfl, tbi_4 (i := 153) rfl rfl, tbi_1 (i := 12) rfl rfl, tbi_4 (i := 154) rfl rfl, ⟨by decide +kernel, by decide +kernel, by decide +kernel⟩, by decide⟩
theorem vl_X3_146 : VL RX3 146 yX3_dawn cX3_dawn 2 (some .int) 1 := ⟨tbi_5 (i := 41) rfl rfl, tbi_4 (i := 227) rfl rfl, tbi_4 (i := 228) rfl rfl, tbi_1 (i := 12) rfl rfl, tbi_4 (i := 229) rfl rfl, ⟨by decide +kernel, by decide +kernel, by decide +kernel⟩, by decide⟩
theorem fl_X5_46 : Cond.fieldLink RX5 46 (TX5 9).1 (TX5 9).2.1 (TX5 9).2.2.1 ∈ tb := tbi_2 (i := 1) rfl rfl
theorem fl_X5_110 : Cond.fieldLink RX5 110 (TX1 1).1 (TX1 1).2.1 (TX1 1).2.2.1 ∈ tb := tbi_1 (i := 175) rfl rfl
theorem vl_X5_128 : VL RX5 128 yX5_hasCistern cX5_hasCistern 3 (some .boolean) 1 := ⟨tbi_3 (i := 219) rfl rfl, tbi_3 (i := 221) rfl rfl, tbs (i := 21) (by decide +kernel) rfl, tbi_1 (i := 8) rfl rfl, tbi_3 (i := 222) rfl rfl, ⟨by decide +kernel, by decide +kernel, by decide +kernel⟩, by decide⟩
theorem vl_X5_131 : VL RX5 131 yX5_contents cX5_contents 4 (some .int) 2 := ⟨tbi_5 (i := 59) rfl rfl, tbi_3 (i := 211) rfl rfl, tbi_3 (i := 212) rfl rfl, tbi_1 (i := 8) rfl rfl, tbi_3 (i := 213) rfl rfl, ⟨by decide +kernel, by decide +kernel, by decide +kernel⟩, by decide⟩
theorem fl_X0_100 : Cond.fieldLink RX0 100 (TX1 1).1 (TX1 1).2.1 (TX1 1).2.2.1 ∈ tb := tbi_1 (i := 176) rfl rfl
theorem fl_X0_90 : Cond.fieldLink RX0 90 (TX5 13).1 (TX5 13).2.1 (TX5 13).2.2.1 ∈ tb := tbi_2 (i := 17) rfl rfl
theorem vl_X0_105 : VL RX0 105 yX5_isFree cX5_isFree 3 (some .boolean) 2 := ⟨tbi_5 (i := 185) rfl rfl, tbi_5 (i := 56) rfl rfl, tbi_5 (i := 57) rfl rfl, tbi_1 (i := 8) rfl rfl, tbi_5 (i := 58) rfl rfl, ⟨by decide +kernel, by decide +kernel, by decide +kernel⟩, by decide⟩
theorem fl_X0_20 : Cond.fieldLink RX0 20 (TX0 2).1 (TX0 2).2.1 (TX0 2).2.2.1 ∈ tb := tbi_2 (i := 173) rfl rfl
theorem fl_X0_33 : Cond.fieldLink RX0 33 (TX0 6).1 (TX0 6).2.1 (TX0 6).2.2.1 ∈ tb := tbi_2 (i := 177) rfl rfl
theorem fl_X0_30 : Cond.fieldLink RX0 30 (TX0 5).1 (TX0 5).2.1 (TX0 5).2.2.1 ∈ tb := tbi_2 (i := 176) rfl rfl
theorem fl_X0_24 : Cond.fieldLink RX0 24 (TX0 3).1 (TX0 3).2.1 (TX0 3).2.2.1 ∈ tb := tbi_2 (i := 174) rfl rfl
theorem fl_X0_17 : Cond.fieldLink RX0 17 (TX0 1).1 (TX0 1).2.1 (TX0 1).2.2.1 ∈ tb := tbi_2 (i := 172) rfl rfl
theorem fl_X0_27 : Cond.fieldLink RX0 27 (TX0 4).1 (TX0 4).2.1 (TX0 4).2.2.1 ∈ tb := tbi_2 (i := 175) rfl rfl
theorem fl_X0_73 : Cond.fieldLink RX0 73 (TX5 6).1 (TX5 6).2.1 (TX5 6).2.2.1 ∈ tb := tbi_1 (i := 233) rfl rfl
theorem fl_X0_74 : Cond.fieldLink RX0 74 (TX3 8).1 (TX3 8).2.1 (TX3 8).2.2.1 ∈ tb := tbi_2 (i := 120) rfl rfl
theorem al_X0_77 : AL RX0 77 := ⟨tbi_5 (i := 178) rfl rfl, tbi_4 (i := 68) rfl rfl, tbi_4 (i := 67) rfl rfl, tbi_1 (i := 18) rfl rfl⟩
theorem vl_X0_83 : VL RX0 83 yX3_allByDawn cX3_allByDawn 4 (some .int) 1 := ⟨tbi_5 (i := 179) rfl rfl, tbi_5 (i := 38) rfl rfl, tbi_5 (i := 39) rfl rfl, tbi_1 (i := 12) rfl rfl, tbi_5 (i := 40) rfl rfl, ⟨by decide +kernel, by decide +kernel, by decide +kernel⟩, by decide⟩
theorem vl_X0_54 : VL RX0 54 yX5_cells cX5_cells 1 (some .int) 0 := ⟨tbi_5 (i := 180) rfl rfl, tbi_4 (i := 165) rfl rfl, tbi_4 (i := 166) rfl rfl, tbi_1 (i := 8) rfl rfl, tbi_4 (i := 167) rfl rfl, ⟨by decide +kernel, by decide +kernel, by decide +kernel⟩, by decide⟩
theorem vl_X0_87 : VL RX0 87 yX5_nearest cX5_nearest 6 (some .int) 1 := ⟨tbi_5 (i := 181) rfl rfl, tbi_4 (i := 137) rfl rfl, tbi_4 (i := 138) rfl rfl, tbi_1 (i := 8) rfl rfl, tbi_4 (i := 139) rfl rfl, ⟨by decide +kernel, by decide +kernel, by decide +kernel⟩, by decide⟩
theorem sl_X0_58 : SL RX0 58 yX0_canHang cX0_canHang 4 (some .boolean) 4 := ⟨tbi_5 (i := 182) rfl rfl, tbi_5 (i := 183) rfl rfl, tbi_1 (i := 14) rfl rfl, tbi_5 (i := 184) rfl rfl, ⟨by decide +kernel, by decide +kernel, by decide +kernel⟩, by decide⟩
theorem fl_X0_93 : Cond.fieldLink RX0 93 (TX5 10).1 (TX5 10).2.1 (TX5 10).2.2.1 ∈ tb := tbi_2 (i := 7) rfl rfl
theorem vl_X0_96 : VL RX0 96 yX3_lie cX3_lie 8 (some .int) 5 := ⟨tbi_5 (i := 186) rfl rfl, tbi_4 (i := 178) rfl rfl, tbi_4 (i := 179) rfl rfl, tbi_1 (i := 12) rfl rfl, tbi_4 (i := 180) rfl rfl, ⟨by decide +kernel, by decide +kernel, by decide +kernel⟩, by decide⟩
theorem vl_X0_62 : VL RX0 62 yX0_hangOn cX0_hangOn 5 none 3 := ⟨tbi_5 (i := 187) rfl rfl, tbi_5 (i := 189) rfl rfl, tbs (i := 51) (by decide +kernel) rfl, tbi_1 (i := 14) rfl rfl, tbi_5 (i := 190) rfl rfl, ⟨by decide +kernel, by decide +kernel, by decide +kernel⟩, by decide⟩
theorem ml_X0_112 : ML RX0 112 Lib.Math.max.name Lib.Math.max.code 2 (some .int) := ⟨tbi_5 (i := 203) rfl rfl, tbi_4 (i := 222) rfl rfl, tbi_1 (i := 19) rfl rfl, tbi_4 (i := 223) rfl rfl⟩
theorem ml_X0_118 : ML RX0 118 Lib.Math.min.name Lib.Math.min.code 2 (some .int) := ⟨tbi_5 (i := 204) rfl rfl, tbi_4 (i := 156) rfl rfl, tbi_1 (i := 19) rfl rfl, tbi_4 (i := 157) rfl rfl⟩
theorem vl_X0_109 : VL RX0 109 yX0_spread cX0_spread 4 (some .int) 0 := ⟨tbi_5 (i := 199) rfl rfl, tbi_5 (i := 201) rfl rfl, tbs (i := 54) (by decide +kernel) rfl, tbi_1 (i := 14) rfl rfl, tbi_5 (i := 202) rfl rfl, ⟨by decide +kernel, by decide +kernel, by decide +kernel⟩, by decide⟩
theorem fl_X0_39 : Cond.fieldLink RX0 39 (TX0 8).1 (TX0 8).2.1 (TX0 8).2.2.1 ∈ tb := tbi_2 (i := 179) rfl rfl
theorem fl_X0_42 : Cond.fieldLink RX0 42 (TX0 9).1 (TX0 9).2.1 (TX0 9).2.2.1 ∈ tb := tbi_2 (i := 181) rfl rfl
theorem fl_X0_36 : Cond.fieldLink RX0 36 (TX0 7).1 (TX0 7).2.1 (TX0 7).2.2.1 ∈ tb := tbi_2 (i := 178) rfl rfl
theorem vl_X0_70 : VL RX0 70 yX0_judge cX0_judge 3 none 0 := ⟨tbi_5 (i := 195) rfl rfl, tbi_5 (i := 197) rfl rfl, tbs (i := 53) (by decide +kernel) rfl, tbi_1 (i := 14) rfl rfl, tbi_5 (i := 198) rfl rfl, ⟨by decide +kernel, by decide +kernel, by decide +kernel⟩, by decide⟩
theorem fl_X0_9 : Cond.fieldLink RX0 9 (TX0 0).1 (TX0 0).2.1 (TX0 0).2.2.1 ∈ tb := tbi_2 (i := 171) rfl rfl
theorem fl_X0_45 : Cond.fieldLink RX0 45 (TX5 12).1 (TX5 12).2.1 (TX5 12).2.2.1 ∈ tb := tbi_2 (i := 13) rfl rfl
theorem vl_X0_50 : VL RX0 50 yX0_prepare cX0_prepare 9 none 4 := ⟨tbi_5 (i := 174) rfl rfl, tbi_5 (i := 176) rfl rfl, tbs (i := 50) (by decide +kernel) rfl, tbi_1 (i := 14) rfl rfl, tbi_5 (i := 177) rfl rfl, ⟨by decide +kernel, by decide +kernel, by decide +kernel⟩, by decide⟩
theorem vl_X0_66 : VL RX0 66 yX0_tryRest cX0_tryRest 5 none 3 := ⟨tbi_5 (i := 191) rfl rfl, tbi_5 (i := 193) rfl rfl, tbs (i := 52) (by decide +kernel) rfl, tbi_1 (i := 14) rfl rfl, tbi_5 (i := 194) rfl rfl, ⟨by decide +kernel, by decide +kernel, by decide +kernel⟩, by decide⟩
theorem fl_X10_155 : Cond.fieldLink RX10 155 (TX5 12).1 (TX5 12).2.1 (TX5 12).2.2.1 ∈ tb := tbi_2 (i := 14) rfl rfl
theorem fl_X10_149 : Cond.fieldLink RX10 149 (TX5 6).1 (TX5 6).2.1 (TX5 6).2.2.1 ∈ tb := tbi_1 (i := 236) rfl rfl
theorem fl_X10_81 : Cond.fieldLink RX10 81 (TX10 14).1 (TX10 14).2.1 (TX10 14).2.2.1 ∈ tb := tbi_3 (i := 1) rfl rfl
theorem vl_X10_226 : VL RX10 226 yX10_asTold cX10_asTold 1 (some (.object "DewBaron$Night")) 0 := ⟨tbi_4 (i := 147) rfl rfl, tbi_4 (i := 149) rfl rfl, tbs (i := 37) (by decide +kernel) rfl, tbi_1 (i := 1) rfl rfl, tbi_4 (i := 150) rfl rfl, ⟨by decide +kernel, by decide +kernel, by decide +kernel⟩, by decide⟩
theorem vl_X10_346 : VL RX10 346 yX0_find cX0_find 6 none 4 := ⟨tbi_5 (i := 170) rfl rfl, tbi_5 (i := 171) rfl rfl, tbi_5 (i := 172) rfl rfl, tbi_1 (i := 14) rfl rfl, tbi_5 (i := 173) rfl rfl, ⟨by decide +kernel, by decide +kernel, by decide +kernel⟩, by decide⟩
theorem vl_X10_356 : VL RX10 356 yX0_bestSpot cX0_bestSpot 2 (some .int) 1 := ⟨tbi_5 (i := 205) rfl rfl, tbi_5 (i := 206) rfl rfl, tbi_5 (i := 207) rfl rfl, tbi_1 (i := 14) rfl rfl, tbi_5 (i := 208) rfl rfl, ⟨by decide +kernel, by decide +kernel, by decide +kernel⟩, by decide⟩
theorem fl_X10_353 : Cond.fieldLink RX10 353 (TX0 9).1 (TX0 9).2.1 (TX0 9).2.2.1 ∈ tb := tbi_2 (i := 182) rfl rfl
theorem fl_X10_350 : Cond.fieldLink RX10 350 (TX0 8).1 (TX0 8).2.1 (TX0 8).2.2.1 ∈ tb := tbi_2 (i := 180) rfl rfl
theorem al_X1_31 : AL RX1 31 := ⟨tbi_4 (i := 66) rfl rfl, tbi_4 (i := 68) rfl rfl, tbi_4 (i := 67) rfl rfl, tbi_1 (i := 18) rfl rfl⟩
theorem fl_X1_15 : Cond.fieldLink RX1 15 (TX1 1).1 (TX1 1).2.1 (TX1 1).2.2.1 ∈ tb := tbi_1 (i := 172) rfl rfl
theorem fl_X1_18 : Cond.fieldLink RX1 18 (TX1 2).1 (TX1 2).2.1 (TX1 2).2.2.1 ∈ tb := tbi_1 (i := 178) rfl rfl
theorem fl_X1_21 : Cond.fieldLink RX1 21 (TX1 3).1 (TX1 3).2.1 (TX1 3).2.2.1 ∈ tb := tbi_1 (i := 180) rfl rfl
theorem fl_X10_41 : Cond.fieldLink RX10 41 (TX10 6).1 (TX10 6).2.1 (TX10 6).2.2.1 ∈ tb := tbi_2 (i := 233) rfl rfl
theorem vl_X10_116 : VL RX10 116 yX1_copyFrom cX1_copyFrom 2 none 1 := ⟨tbi_4 (i := 62) rfl rfl, tbi_4 (i := 63) rfl rfl, tbi_4 (i := 64) rfl rfl, tbi_1 (i := 9) rfl rfl, tbi_4 (i := 65) rfl rfl, ⟨by decide +kernel, by decide +kernel, by decide +kernel⟩, by decide⟩
theorem vl_X10_294 : VL RX10 294 yX1_hasWall cX1_hasWall 2 (some .boolean) 1 := ⟨tbi_5 (i := 70) rfl rfl, tbi_3 (i := 215) rfl rfl, tbi_3 (i := 216) rfl rfl, tbi_1 (i := 9) rfl rfl, tbi_3 (i := 217) rfl rfl, ⟨by decide +kernel, by decide +kernel, by decide +kernel⟩, by decide⟩
theorem fl_X10_61 : Cond.fieldLink RX10 61 (TX10 10).1 (TX10 10).2.1 (TX10 10).2.2.1 ∈ tb := tbi_2 (i := 237) rfl rfl
theorem fl_X10_297 : Cond.fieldLink RX10 297 (TX1 0).1 (TX1 0).2.1 (TX1 0).2.2.1 ∈ tb := tbi_1 (i := 171) rfl rfl
theorem vl_X10_173 : VL RX10 173 yX5_isCistern cX5_isCistern 2 (some .boolean) 1 := ⟨tbi_4 (i := 99) rfl rfl, tbi_4 (i := 100) rfl rfl, tbi_4 (i := 101) rfl rfl, tbi_1 (i := 8) rfl rfl, tbi_4 (i := 102) rfl rfl, ⟨by decide +kernel, by decide +kernel, by decide +kernel⟩, by decide⟩
theorem fl_X10_239 : Cond.fieldLink RX10 239 (TX3 8).1 (TX3 8).2.1 (TX3 8).2.2.1 ∈ tb := tbi_2 (i := 122) rfl rfl
theorem vl_X10_375 : VL RX10 375 yX5_cells cX5_cells 1 (some .int) 0 := ⟨tbi_5 (i := 23) rfl rfl, tbi_4 (i := 165) rfl rfl, tbi_4 (i := 166) rfl rfl, tbi_1 (i := 8) rfl rfl, tbi_4 (i := 167) rfl rfl, ⟨by decide +kernel, by decide +kernel, by decide +kernel⟩, by decide⟩
theorem vl_X10_368 : VL RX10 368 yX10_passWithout cX10_passWithout 2 none 1 := ⟨tbi_5 (i := 227) rfl rfl, tbi_5 (i := 229) rfl rfl, tbs (i := 56) (by decide +kernel) rfl, tbi_1 (i := 1) rfl rfl, tbi_5 (i := 230) rfl rfl, ⟨by decide +kernel, by decide +kernel, by decide +kernel⟩, by decide⟩
theorem vl_X10_371 : VL RX10 371 yX10_gain cX10_gain 3 (some .int) 2 := ⟨tbi_5 (i := 231) rfl rfl, tbi_5 (i := 233) rfl rfl, tbs (i := 57) (by decide +kernel) rfl, tbi_1 (i := 1) rfl rfl, tbi_5 (i := 234) rfl rfl, ⟨by decide +kernel, by decide +kernel, by decide +kernel⟩, by decide⟩
theorem vl_X10_264 : VL RX10 264 yX10_hasIsland cX10_hasIsland 1 (some .boolean) 0 := ⟨tbi_5 (i := 19) rfl rfl, tbi_5 (i := 21) rfl rfl, tbs (i := 41) (by decide +kernel) rfl, tbi_1 (i := 1) rfl rfl, tbi_5 (i := 22) rfl rfl, ⟨by decide +kernel, by decide +kernel, by decide +kernel⟩, by decide⟩
theorem fl_X10_167 : Cond.fieldLink RX10 167 (TX1 3).1 (TX1 3).2.1 (TX1 3).2.2.1 ∈ tb := tbi_1 (i := 181) rfl rfl
theorem vl_X5_106 : VL RX5 106 yX5_cellAt cX5_cellAt 4 (some .int) 2 := ⟨tbi_3 (i := 166) rfl rfl, tbi_3 (i := 167) rfl rfl, tbi_3 (i := 168) rfl rfl, tbi_1 (i := 8) rfl rfl, tbi_3 (i := 169) rfl rfl, ⟨by decide +kernel, by decide +kernel, by decide +kernel⟩, by decide⟩
theorem vl_X10_192 : VL RX10 192 yX5_isCell cX5_isCell 2 (some .boolean) 1 := ⟨tbi_4 (i := 114) rfl rfl, tbi_3 (i := 207) rfl rfl, tbi_3 (i := 208) rfl rfl, tbi_1 (i := 8) rfl rfl, tbi_3 (i := 209) rfl rfl, ⟨by decide +kernel, by decide +kernel, by decide +kernel⟩, by decide⟩
theorem fl_X10_195 : Cond.fieldLink RX10 195 (TX5 3).1 (TX5 3).2.1 (TX5 3).2.2.1 ∈ tb := tbi_1 (i := 226) rfl rfl
theorem vl_X10_198 : VL RX10 198 yX5_contents cX5_contents 4 (some .int) 2 := ⟨tbi_4 (i := 115) rfl rfl, tbi_3 (i := 211) rfl rfl, tbi_3 (i := 212) rfl rfl, tbi_1 (i := 8) rfl rfl, tbi_3 (i := 213) rfl rfl, ⟨by decide +kernel, by decide +kernel, by decide +kernel⟩, by decide⟩
theorem vl_X10_202 : VL RX10 202 yX5_openness cX5_openness 5 (some .int) 2 := ⟨tbi_4 (i := 116) rfl rfl, tbi_4 (i := 117) rfl rfl, tbi_4 (i := 118) rfl rfl, tbi_1 (i := 8) rfl rfl, tbi_4 (i := 119) rfl rfl, ⟨by decide +kernel, by decide +kernel, by decide +kernel⟩, by decide⟩
theorem vl_X10_205 : VL RX10 205 yX5_housesBy cX5_housesBy 5 (some .int) 1 := ⟨tbi_4 (i := 120) rfl rfl, tbi_4 (i := 121) rfl rfl, tbi_4 (i := 122) rfl rfl, tbi_1 (i := 8) rfl rfl, tbi_4 (i := 123) rfl rfl, ⟨by decide +kernel, by decide +kernel, by decide +kernel⟩, by decide⟩
theorem vl_X10_208 : VL RX10 208 yX5_sun cX5_sun 5 (some .int) 2 := ⟨tbi_4 (i := 124) rfl rfl, tbi_4 (i := 125) rfl rfl, tbi_4 (i := 126) rfl rfl, tbi_1 (i := 8) rfl rfl, tbi_4 (i := 127) rfl rfl, ⟨by decide +kernel, by decide +kernel, by decide +kernel⟩, by decide⟩
theorem vl_X10_434 : VL RX10 434 yX0_forget cX0_forget 1 none 0 := ⟨tbi_4 (i := 81) rfl rfl, tbi_4 (i := 82) rfl rfl, tbi_4 (i := 83) rfl rfl, tbi_1 (i := 14) rfl rfl, tbi_4 (i := 84) rfl rfl, ⟨by decide +kernel, by decide +kernel, by decide +kernel⟩, by decide⟩
theorem vl_X5_135 : VL RX5 135 yX5_nearest cX5_nearest 6 (some .int) 1 := ⟨tbi_4 (i := 238) rfl rfl, tbi_4 (i := 137) rfl rfl, tbi_4 (i := 138) rfl rfl, tbi_1 (i := 8) rfl rfl, tbi_4 (i := 139) rfl rfl, ⟨by decide +kernel, by decide +kernel, by decide +kernel⟩, by decide⟩
theorem fl_X10_233 : Cond.fieldLink RX10 233 (TX5 7).1 (TX5 7).2.1 (TX5 7).2.2.1 ∈ tb := tbi_1 (i := 238) rfl rfl
theorem fl_X10_236 : Cond.fieldLink RX10 236 (TX1 2).1 (TX1 2).2.1 (TX1 2).2.2.1 ∈ tb := tbi_1 (i := 179) rfl rfl
theorem vl_X10_242 : VL RX10 242 yX5_feeders cX5_feeders 5 (some .int) 2 := ⟨tbi_4 (i := 234) rfl rfl, tbi_4 (i := 235) rfl rfl, tbi_4 (i := 236) rfl rfl, tbi_1 (i := 8) rfl rfl, tbi_4 (i := 237) rfl rfl, ⟨by decide +kernel, by decide +kernel, by decide +kernel⟩, by decide⟩
theorem sl_X10_416 : SL RX10 416 yX10_wallAt cX10_wallAt 1 (some .int) 1 := ⟨tbi_6 (i := 83) rfl rfl, tbi_6 (i := 84) rfl rfl, tbi_1 (i := 1) rfl rfl, tbi_6 (i := 85) rfl rfl, ⟨by decide +kernel, by decide +kernel, by decide +kernel⟩, by decide⟩
theorem fl_X5_52 : Cond.fieldLink RX5 52 (TX5 11).1 (TX5 11).2.1 (TX5 11).2.2.1 ∈ tb := tbi_2 (i := 9) rfl rfl
theorem fl_X5_33 : Cond.fieldLink RX5 33 (TX5 5).1 (TX5 5).2.1 (TX5 5).2.2.1 ∈ tb := tbi_1 (i := 229) rfl rfl
theorem fl_X10_9 : Cond.fieldLink RX10 9 (TX10 0).1 (TX10 0).2.1 (TX10 0).2.2.1 ∈ tb := tbi_2 (i := 227) rfl rfl
theorem vl_X10_419 : VL RX10 419 yX10_clothAt cX10_clothAt 2 (some .int) 1 := ⟨tbi_6 (i := 79) rfl rfl, tbi_6 (i := 81) rfl rfl, tbs (i := 63) (by decide +kernel) rfl, tbi_1 (i := 1) rfl rfl, tbi_6 (i := 82) rfl rfl, ⟨by decide +kernel, by decide +kernel, by decide +kernel⟩, by decide⟩
theorem vl_X10_431 : VL RX10 431 yX5_isTaken cX5_isTaken 3 (some .boolean) 1 := ⟨tbi_6 (i := 94) rfl rfl, tbi_6 (i := 95) rfl rfl, tbi_6 (i := 96) rfl rfl, tbi_1 (i := 8) rfl rfl, tbi_6 (i := 97) rfl rfl, ⟨by decide +kernel, by decide +kernel, by decide +kernel⟩, by decide⟩
theorem vl_X10_251 : VL RX10 251 yX3_coldIn cX3_coldIn 4 (some .int) 2 := ⟨tbi_5 (i := 10) rfl rfl, tbi_4 (i := 185) rfl rfl, tbi_4 (i := 186) rfl rfl, tbi_1 (i := 12) rfl rfl, tbi_4 (i := 187) rfl rfl, ⟨by decide +kernel, by decide +kernel, by decide +kernel⟩, by decide⟩
theorem sl_X10_245 : SL RX10 245 yX10_isHour cX10_isHour 1 (some .boolean) 1 := ⟨tbi_5 (i := 3) rfl rfl, tbi_5 (i := 4) rfl rfl, tbi_1 (i := 1) rfl rfl, tbi_5 (i := 5) rfl rfl, ⟨by decide +kernel, by decide +kernel, by decide +kernel⟩, by decide⟩
theorem vl_X10_211 : VL RX10 211 yX5_isThing cX5_isThing 2 (some .boolean) 1 := ⟨tbi_4 (i := 132) rfl rfl, tbi_4 (i := 133) rfl rfl, tbi_4 (i := 134) rfl rfl, tbi_1 (i := 8) rfl rfl, tbi_4 (i := 135) rfl rfl, ⟨by decide +kernel, by decide +kernel, by decide +kernel⟩, by decide⟩
theorem fl_X10_254 : Cond.fieldLink RX10 254 (TX3 5).1 (TX3 5).2.1 (TX3 5).2.2.1 ∈ tb := tbi_2 (i := 114) rfl rfl
theorem fl_X10_258 : Cond.fieldLink RX10 258 (TX3 6).1 (TX3 6).2.1 (TX3 6).2.2.1 ∈ tb := tbi_2 (i := 116) rfl rfl
theorem fl_X10_261 : Cond.fieldLink RX10 261 (TX3 7).1 (TX3 7).2.1 (TX3 7).2.2.1 ∈ tb := tbi_2 (i := 118) rfl rfl
theorem k_X10_367 : Cond.constant RX10 367 (-1000000000) ∈ tb := tbi_5 (i := 226) rfl rfl
theorem k_X10_320 : Cond.constantLong RX10 320 (1103515245) ∈ tb := tbi_5 (i := 101) rfl rfl
theorem fl_X10_51 : Cond.fieldLink RX10 51 (TX10 8).1 (TX10 8).2.1 (TX10 8).2.2.1 ∈ tb := tbi_2 (i := 235) rfl rfl
theorem k_X10_322 : Cond.constantLong RX10 322 (12345) ∈ tb := tbi_5 (i := 102) rfl rfl
theorem k_X10_324 : Cond.constantLong RX10 324 (2147483647) ∈ tb := tbi_5 (i := 103) rfl rfl
theorem fl_X10_64 : Cond.fieldLink RX10 64 (TX10 11).1 (TX10 11).2.1 (TX10 11).2.2.1 ∈ tb := tbi_2 (i := 238) rfl rfl
theorem vl_X10_317 : VL RX10 317 yX10_drawOfHundred cX10_drawOfHundred 3 (some .int) 0 := ⟨tbi_5 (i := 97) rfl rfl, tbi_5 (i := 99) rfl rfl, tbs (i := 46) (by decide +kernel) rfl, tbi_1 (i := 1) rfl rfl, tbi_5 (i := 100) rfl rfl, ⟨by decide +kernel, by decide +kernel, by decide +kernel⟩, by decide⟩
theorem fl_X10_161 : Cond.fieldLink RX10 161 (TX5 18).1 (TX5 18).2.1 (TX5 18).2.2.1 ∈ tb := tbi_2 (i := 32) rfl rfl
theorem fl_X10_98 : Cond.fieldLink RX10 98 (TX10 18).1 (TX10 18).2.1 (TX10 18).2.2.1 ∈ tb := tbi_3 (i := 5) rfl rfl
theorem vl_X10_101 : VL RX10 101 yX10_refuse cX10_refuse 2 (some .int) 1 := ⟨tbi_3 (i := 49) rfl rfl, tbi_3 (i := 51) rfl rfl, tbs (i := 0) (by decide +kernel) rfl, tbi_1 (i := 1) rfl rfl, tbi_3 (i := 52) rfl rfl, ⟨by decide +kernel, by decide +kernel, by decide +kernel⟩, by decide⟩
theorem fl_X10_13 : Cond.fieldLink RX10 13 (TX10 1).1 (TX10 1).2.1 (TX10 1).2.2.1 ∈ tb := tbi_2 (i := 228) rfl rfl
theorem fl_X10_20 : Cond.fieldLink RX10 20 (TX10 2).1 (TX10 2).2.1 (TX10 2).2.2.1 ∈ tb := tbi_2 (i := 229) rfl rfl
theorem fl_X10_130 : Cond.fieldLink RX10 130 (TX6 9).1 (TX6 9).2.1 (TX6 9).2.2.1 ∈ tb := tbi_1 (i := 125) rfl rfl
theorem fl_X10_133 : Cond.fieldLink RX10 133 (TX6 10).1 (TX6 10).2.1 (TX6 10).2.2.1 ∈ tb := tbi_1 (i := 127) rfl rfl
theorem vl_X10_105 : VL RX10 105 yX10_putNumber cX10_putNumber 3 none 1 := ⟨tbi_3 (i := 53) rfl rfl, tbi_3 (i := 55) rfl rfl, tbs (i := 1) (by decide +kernel) rfl, tbi_1 (i := 1) rfl rfl, tbi_3 (i := 56) rfl rfl, ⟨by decide +kernel, by decide +kernel, by decide +kernel⟩, by decide⟩
theorem fl_X5_55 : Cond.fieldLink RX5 55 (TX5 12).1 (TX5 12).2.1 (TX5 12).2.2.1 ∈ tb := tbi_2 (i := 11) rfl rfl
theorem fl_X4_11 : Cond.fieldLink RX4 11 (TX4 0).1 (TX4 0).2.1 (TX4 0).2.2.1 ∈ tb := tbi_2 (i := 90) rfl rfl
theorem fl_X4_17 : Cond.fieldLink RX4 17 (TX4 1).1 (TX4 1).2.1 (TX4 1).2.2.1 ∈ tb := tbi_2 (i := 91) rfl rfl
theorem vl_X4_25 : VL RX4 25 yX1_copyFrom cX1_copyFrom 2 none 1 := ⟨tbi_5 (i := 64) rfl rfl, tbi_4 (i := 63) rfl rfl, tbi_4 (i := 64) rfl rfl, tbi_1 (i := 9) rfl rfl, tbi_4 (i := 65) rfl rfl, ⟨by decide +kernel, by decide +kernel, by decide +kernel⟩, by decide⟩
theorem fl_X4_21 : Cond.fieldLink RX4 21 (TX4 2).1 (TX4 2).2.1 (TX4 2).2.2.1 ∈ tb := tbi_2 (i := 92) rfl rfl
theorem ml_X4_29 : ML RX4 29 Lib.Math.min.name Lib.Math.min.code 2 (some .int) := ⟨tbi_5 (i := 65) rfl rfl, tbi_4 (i := 156) rfl rfl, tbi_1 (i := 19) rfl rfl, tbi_4 (i := 157) rfl rfl⟩
theorem vl_X10_186 : VL RX10 186 yX5_isCloth cX5_isCloth 2 (some .boolean) 1 := ⟨tbi_4 (i := 106) rfl rfl, tbi_4 (i := 107) rfl rfl, tbi_4 (i := 108) rfl rfl, tbi_1 (i := 8) rfl rfl, tbi_4 (i := 109) rfl rfl, ⟨by decide +kernel, by decide +kernel, by decide +kernel⟩, by decide⟩
theorem vl_X10_284 : VL RX10 284 yX5_isFree cX5_isFree 3 (some .boolean) 2 := ⟨tbi_5 (i := 55) rfl rfl, tbi_5 (i := 56) rfl rfl, tbi_5 (i := 57) rfl rfl, tbi_1 (i := 8) rfl rfl, tbi_5 (i := 58) rfl rfl, ⟨by decide +kernel, by decide +kernel, by decide +kernel⟩, by decide⟩
theorem fl_X10_47 : Cond.fieldLink RX10 47 (TX10 7).1 (TX10 7).2.1 (TX10 7).2.2.1 ∈ tb := tbi_2 (i := 234) rfl rfl
theorem vl_X10_288 : VL RX10 288 yX4_remember cX4_remember 2 none 1 := ⟨tbi_5 (i := 60) rfl rfl, tbi_5 (i := 61) rfl rfl, tbi_5 (i := 62) rfl rfl, tbi_1 (i := 11) rfl rfl, tbi_5 (i := 63) rfl rfl, ⟨by decide +kernel, by decide +kernel, by decide +kernel⟩, by decide⟩
theorem fl_X10_214 : Cond.fieldLink RX10 214 (TX1 1).1 (TX1 1).2.1 (TX1 1).2.2.1 ∈ tb := tbi_1 (i := 177) rfl rfl
theorem fl_X10_291 : Cond.fieldLink RX10 291 (TX5 13).1 (TX5 13).2.1 (TX5 13).2.2.1 ∈ tb := tbi_2 (i := 18) rfl rfl
theorem vl_X10_124 : VL RX10 124 yX10_changed cX10_changed 1 none 0 := ⟨tbi_4 (i := 77) rfl rfl, tbi_4 (i := 79) rfl rfl, tbs (i := 35) (by decide +kernel) rfl, tbi_1 (i := 1) rfl rfl, tbi_4 (i := 80) rfl rfl, ⟨by decide +kernel, by decide +kernel, by decide +kernel⟩, by decide⟩
theorem fl_X10_136 : Cond.fieldLink RX10 136 (TX5 0).1 (TX5 0).2.1 (TX5 0).2.2.1 ∈ tb := tbi_1 (i := 217) rfl rfl
theorem fl_X10_139 : Cond.fieldLink RX10 139 (TX5 1).1 (TX5 1).2.1 (TX5 1).2.2.1 ∈ tb := tbi_1 (i := 220) rfl rfl
theorem vl_X10_142 : VL RX10 142 yX1_walls cX1_walls 6 (some .int) 0 := ⟨tbi_4 (i := 93) rfl rfl, tbi_3 (i := 186) rfl rfl, tbi_3 (i := 187) rfl rfl, tbi_1 (i := 9) rfl rfl, tbi_3 (i := 188) rfl rfl, ⟨by decide +kernel, by decide +kernel, by decide +kernel⟩, by decide⟩
theorem vl_X10_146 : VL RX10 146 yX5_houses cX5_houses 6 (some .int) 0 := ⟨tbi_4 (i := 94) rfl rfl, tbi_3 (i := 190) rfl rfl, tbi_3 (i := 191) rfl rfl, tbi_1 (i := 8) rfl rfl, tbi_3 (i := 192) rfl rfl, ⟨by decide +kernel, by decide +kernel, by decide +kernel⟩, by decide⟩
theorem fl_X10_152 : Cond.fieldLink RX10 152 (TX5 9).1 (TX5 9).2.1 (TX5 9).2.2.1 ∈ tb := tbi_2 (i := 4) rfl rfl
theorem fl_X10_158 : Cond.fieldLink RX10 158 (TX5 17).1 (TX5 17).2.1 (TX5 17).2.2.1 ∈ tb := tbi_2 (i := 29) rfl rfl
theorem fl_X10_164 : Cond.fieldLink RX10 164 (TX5 19).1 (TX5 19).2.1 (TX5 19).2.2.1 ∈ tb := tbi_2 (i := 36) rfl rfl
theorem fl_X10_170 : Cond.fieldLink RX10 170 (TX4 2).1 (TX4 2).2.1 (TX4 2).2.2.1 ∈ tb := tbi_2 (i := 93) rfl rfl
theorem fl_X10_95 : Cond.fieldLink RX10 95 (TX10 17).1 (TX10 17).2.1 (TX10 17).2.2.1 ∈ tb := tbi_3 (i := 4) rfl rfl
theorem fl_X10_92 : Cond.fieldLink RX10 92 (TX10 16).1 (TX10 16).2.1 (TX10 16).2.2.1 ∈ tb := tbi_3 (i := 3) rfl rfl
theorem vl_X10_403 : VL RX10 403 yX10_write cX10_write 2 none 1 := ⟨tbi_6 (i := 56) rfl rfl, tbi_6 (i := 58) rfl rfl, tbs (i := 60) (by decide +kernel) rfl, tbi_1 (i := 1) rfl rfl, tbi_6 (i := 59) rfl rfl, ⟨by decide +kernel, by decide +kernel, by decide +kernel⟩, by decide⟩
theorem vl_X10_400 : VL RX10 400 yX10_writeTwo cX10_writeTwo 2 none 1 := ⟨tbi_6 (i := 52) rfl rfl, tbi_6 (i := 54) rfl rfl, tbs (i := 59) (by decide +kernel) rfl, tbi_1 (i := 1) rfl rfl, tbi_6 (i := 55) rfl rfl, ⟨by decide +kernel, by decide +kernel, by decide +kernel⟩, by decide⟩
theorem sl_X10_406 : SL RX10 406 yX10_checkOf cX10_checkOf 4 (some .int) 2 := ⟨tbi_6 (i := 60) rfl rfl, tbi_6 (i := 61) rfl rfl, tbi_1 (i := 1) rfl rfl, tbi_6 (i := 62) rfl rfl, ⟨by decide +kernel, by decide +kernel, by decide +kernel⟩, by decide⟩
theorem vl_X10_422 : VL RX10 422 yX10_dropsAt cX10_dropsAt 2 (some .int) 1 := ⟨tbi_6 (i := 75) rfl rfl, tbi_6 (i := 77) rfl rfl, tbs (i := 62) (by decide +kernel) rfl, tbi_1 (i := 1) rfl rfl, tbi_6 (i := 78) rfl rfl, ⟨by decide +kernel, by decide +kernel, by decide +kernel⟩, by decide⟩
theorem vl_X10_413 : VL RX10 413 yX10_twoAt cX10_twoAt 2 (some .int) 1 := ⟨tbi_6 (i := 86) rfl rfl, tbi_6 (i := 88) rfl rfl, tbs (i := 64) (by decide +kernel) rfl, tbi_1 (i := 1) rfl rfl, tbi_6 (i := 89) rfl rfl, ⟨by decide +kernel, by decide +kernel, by decide +kernel⟩, by decide⟩
theorem vl_X10_425 : VL RX10 425 yX10_wallsCanBe cX10_wallsCanBe 3 (some .boolean) 0 := ⟨tbi_6 (i := 90) rfl rfl, tbi_6 (i := 92) rfl rfl, tbs (i := 65) (by decide +kernel) rfl, tbi_1 (i := 1) rfl rfl, tbi_6 (i := 93) rfl rfl, ⟨by decide +kernel, by decide +kernel, by decide +kernel⟩, by decide⟩
theorem vl_X10_428 : VL RX10 428 yX10_clothsCanBe cX10_clothsCanBe 4 (some .boolean) 0 := ⟨tbi_6 (i := 98) rfl rfl, tbi_6 (i := 100) rfl rfl, tbs (i := 66) (by decide +kernel) rfl, tbi_1 (i := 1) rfl rfl, tbi_6 (i := 101) rfl rfl, ⟨by decide +kernel, by decide +kernel, by decide +kernel⟩, by decide⟩
theorem fl_X8_18 : Cond.fieldLink RX8 18 (TX8 2).1 (TX8 2).2.1 (TX8 2).2.2.1 ∈ tb := tbi_1 (i := 97) rfl rfl
theorem fl_X8_15 : Cond.fieldLink RX8 15 (TX8 1).1 (TX8 1).2.1 (TX8 1).2.2.1 ∈ tb := tbi_1 (i := 95) rfl rfl
theorem fl_X8_22 : Cond.fieldLink RX8 22 (TX8 3).1 (TX8 3).2.1 (TX8 3).2.2.1 ∈ tb := tbi_1 (i := 99) rfl rfl
theorem fl_X8_25 : Cond.fieldLink RX8 25 (TX8 4).1 (TX8 4).2.1 (TX8 4).2.2.1 ∈ tb := tbi_1 (i := 100) rfl rfl
theorem sl_X8_75 : SL RX8 75 yX8_skyOf cX8_skyOf 1 (some .int) 1 := ⟨tbi_3 (i := 94) rfl rfl, tbi_3 (i := 95) rfl rfl, tbi_1 (i := 3) rfl rfl, tbi_3 (i := 96) rfl rfl, ⟨by decide +kernel, by decide +kernel, by decide +kernel⟩, by decide⟩
theorem vl_X8_55 : VL RX8 55 yX8_put cX8_put 4 none 3 := ⟨tbi_3 (i := 86) rfl rfl, tbi_3 (i := 88) rfl rfl, tbs (i := 3) (by decide +kernel) rfl, tbi_1 (i := 3) rfl rfl, tbi_3 (i := 89) rfl rfl, ⟨by decide +kernel, by decide +kernel, by decide +kernel⟩, by decide⟩
theorem fl_X8_11 : Cond.fieldLink RX8 11 (TX8 0).1 (TX8 0).2.1 (TX8 0).2.2.1 ∈ tb := tbi_1 (i := 94) rfl rfl
theorem k_X8_41 : Cond.constantLong RX8 41 (32) ∈ tb := tbi_1 (i := 90) rfl rfl
theorem sl_X8_43 : SL RX8 43 yX8_numberOf cX8_numberOf 1 (some .int) 1 := ⟨tbi_1 (i := 91) rfl rfl, tbi_1 (i := 92) rfl rfl, tbi_1 (i := 3) rfl rfl, tbi_1 (i := 93) rfl rfl, ⟨by decide +kernel, by decide +kernel, by decide +kernel⟩, by decide⟩
theorem vl_X8_78 : VL RX8 78 yX8_ownWord cX8_ownWord 4 (some .int) 1 := ⟨tbi_3 (i := 101) rfl rfl, tbi_3 (i := 103) rfl rfl, tbs (i := 6) (by decide +kernel) rfl, tbi_1 (i := 3) rfl rfl, tbi_3 (i := 104) rfl rfl, ⟨by decide +kernel, by decide +kernel, by decide +kernel⟩, by decide⟩
theorem sl_X8_59 : SL RX8 59 yX8_isLetter cX8_isLetter 1 (some .boolean) 1 := ⟨tbi_3 (i := 80) rfl rfl, tbi_3 (i := 81) rfl rfl, tbi_1 (i := 3) rfl rfl, tbi_3 (i := 82) rfl rfl, ⟨by decide +kernel, by decide +kernel, by decide +kernel⟩, by decide⟩
theorem sl_X8_62 : SL RX8 62 yX8_isDigit cX8_isDigit 1 (some .boolean) 1 := ⟨tbi_3 (i := 83) rfl rfl, tbi_3 (i := 84) rfl rfl, tbi_1 (i := 3) rfl rfl, tbi_3 (i := 85) rfl rfl, ⟨by decide +kernel, by decide +kernel, by decide +kernel⟩, by decide⟩
theorem vl_X8_72 : VL RX8 72 yX8_putNumber cX8_putNumber 6 none 3 := ⟨tbi_3 (i := 105) rfl rfl, tbi_3 (i := 107) rfl rfl, tbs (i := 7) (by decide +kernel) rfl, tbi_1 (i := 3) rfl rfl, tbi_3 (i := 108) rfl rfl, ⟨by decide +kernel, by decide +kernel, by decide +kernel⟩, by decide⟩
theorem vl_X8_69 : VL RX8 69 yX8_putWord cX8_putWord 7 none 3 := ⟨tbi_3 (i := 97) rfl rfl, tbi_3 (i := 99) rfl rfl, tbs (i := 5) (by decide +kernel) rfl, tbi_1 (i := 3) rfl rfl, tbi_3 (i := 100) rfl rfl, ⟨by decide +kernel, by decide +kernel, by decide +kernel⟩, by decide⟩
theorem vl_X8_65 : VL RX8 65 yX8_putLetters cX8_putLetters 8 none 3 := ⟨tbi_3 (i := 90) rfl rfl, tbi_3 (i := 92) rfl rfl, tbs (i := 4) (by decide +kernel) rfl, tbi_1 (i := 3) rfl rfl, tbi_3 (i := 93) rfl rfl, ⟨by decide +kernel, by decide +kernel, by decide +kernel⟩, by decide⟩
theorem sl_X8_47 : SL RX8 47 yX8_isBlank cX8_isBlank 1 (some .boolean) 1 := ⟨tbi_3 (i := 73) rfl rfl, tbi_3 (i := 74) rfl rfl, tbi_1 (i := 3) rfl rfl, tbi_3 (i := 75) rfl rfl, ⟨by decide +kernel, by decide +kernel, by decide +kernel⟩, by decide⟩
theorem vl_X8_51 : VL RX8 51 yX8_cutOne cX8_cutOne 8 (some .int) 3 := ⟨tbi_3 (i := 76) rfl rfl, tbi_3 (i := 78) rfl rfl, tbs (i := 2) (by decide +kernel) rfl, tbi_1 (i := 3) rfl rfl, tbi_3 (i := 79) rfl rfl, ⟨by decide +kernel, by decide +kernel, by decide +kernel⟩, by decide⟩
theorem sl_X1_25 : SL RX1 25 yJ7_fill_53178 cJ7_fill_53178 4 none 2 := ⟨tbi_3 (i := 120) rfl rfl, tbi_3 (i := 114) rfl rfl, tbi_1 (i := 17) rfl rfl, tbi_3 (i := 115) rfl rfl, ⟨by decide +kernel, by decide +kernel, by decide +kernel⟩, by decide⟩
theorem fl_X7_15 : Cond.fieldLink RX7 15 (TX7 1).1 (TX7 1).2.1 (TX7 1).2.2.1 ∈ tb := tbi_1 (i := 198) rfl rfl
theorem sl_X7_31 : SL RX7 31 yJ7_fill_53178 cJ7_fill_53178 4 none 2 := ⟨tbi_3 (i := 125) rfl rfl, tbi_3 (i := 114) rfl rfl, tbi_1 (i := 17) rfl rfl, tbi_3 (i := 115) rfl rfl, ⟨by decide +kernel, by decide +kernel, by decide +kernel⟩, by decide⟩
theorem sl_X5_83 : SL RX5 83 yJ7_fill_53178 cJ7_fill_53178 4 none 2 := ⟨tbi_3 (i := 113) rfl rfl, tbi_3 (i := 114) rfl rfl, tbi_1 (i := 17) rfl rfl, tbi_3 (i := 115) rfl rfl, ⟨by decide +kernel, by decide +kernel, by decide +kernel⟩, by decide⟩
theorem vl_X5_89 : VL RX5 89 yX1_clear cX1_clear 1 none 0 := ⟨tbi_3 (i := 116) rfl rfl, tbi_3 (i := 117) rfl rfl, tbi_3 (i := 118) rfl rfl, tbi_1 (i := 9) rfl rfl, tbi_3 (i := 119) rfl rfl, ⟨by decide +kernel, by decide +kernel, by decide +kernel⟩, by decide⟩
theorem fl_X5_64 : Cond.fieldLink RX5 64 (TX5 15).1 (TX5 15).2.1 (TX5 15).2.2.1 ∈ tb := tbi_2 (i := 21) rfl rfl
theorem fl_X5_70 : Cond.fieldLink RX5 70 (TX5 16).1 (TX5 16).2.1 (TX5 16).2.2.1 ∈ tb := tbi_2 (i := 24) rfl rfl
theorem vl_X5_92 : VL RX5 92 yX7_clear cX7_clear 1 none 0 := ⟨tbi_3 (i := 121) rfl rfl, tbi_3 (i := 122) rfl rfl, tbi_3 (i := 123) rfl rfl, tbi_1 (i := 10) rfl rfl, tbi_3 (i := 124) rfl rfl, ⟨by decide +kernel, by decide +kernel, by decide +kernel⟩, by decide⟩
theorem fl_X5_74 : Cond.fieldLink RX5 74 (TX5 17).1 (TX5 17).2.1 (TX5 17).2.2.1 ∈ tb := tbi_2 (i := 27) rfl rfl
theorem fl_X5_77 : Cond.fieldLink RX5 77 (TX5 18).1 (TX5 18).2.1 (TX5 18).2.2.1 ∈ tb := tbi_2 (i := 31) rfl rfl
theorem fl_X5_80 : Cond.fieldLink RX5 80 (TX5 19).1 (TX5 19).2.1 (TX5 19).2.2.1 ∈ tb := tbi_2 (i := 34) rfl rfl
theorem fl_X6_18 : Cond.fieldLink RX6 18 (TX6 1).1 (TX6 1).2.1 (TX6 1).2.2.1 ∈ tb := tbi_1 (i := 116) rfl rfl
theorem fl_X6_22 : Cond.fieldLink RX6 22 (TX6 2).1 (TX6 2).2.1 (TX6 2).2.2.1 ∈ tb := tbi_1 (i := 117) rfl rfl
theorem fl_X6_25 : Cond.fieldLink RX6 25 (TX6 3).1 (TX6 3).2.1 (TX6 3).2.2.1 ∈ tb := tbi_1 (i := 118) rfl rfl
theorem fl_X6_28 : Cond.fieldLink RX6 28 (TX6 4).1 (TX6 4).2.1 (TX6 4).2.2.1 ∈ tb := tbi_1 (i := 119) rfl rfl
theorem fl_X6_12 : Cond.fieldLink RX6 12 (TX6 0).1 (TX6 0).2.1 (TX6 0).2.2.1 ∈ tb := tbi_1 (i := 115) rfl rfl
theorem fl_X6_215 : Cond.fieldLink RX6 215 (TX8 1).1 (TX8 1).2.1 (TX8 1).2.2.1 ∈ tb := tbi_1 (i := 96) rfl rfl
theorem fl_X6_212 : Cond.fieldLink RX6 212 (TX8 2).1 (TX8 2).2.1 (TX8 2).2.2.1 ∈ tb := tbi_1 (i := 98) rfl rfl
theorem fl_X6_43 : Cond.fieldLink RX6 43 (TX6 9).1 (TX6 9).2.1 (TX6 9).2.2.1 ∈ tb := tbi_1 (i := 124) rfl rfl
theorem fl_X6_46 : Cond.fieldLink RX6 46 (TX6 10).1 (TX6 10).2.1 (TX6 10).2.2.1 ∈ tb := tbi_1 (i := 126) rfl rfl
theorem vl_X6_139 : VL RX6 139 yX6_unexpected cX6_unexpected 1 (some .boolean) 0 := ⟨tbi_3 (i := 138) rfl rfl, tbi_3 (i := 140) rfl rfl, tbs (i := 11) (by decide +kernel) rfl, tbi_1 (i := 2) rfl rfl, tbi_3 (i := 141) rfl rfl, ⟨by decide +kernel, by decide +kernel, by decide +kernel⟩, by decide⟩
theorem vl_X6_61 : VL RX6 61 yX6_goTo cX6_goTo 5 (some .boolean) 1 := ⟨tbi_3 (i := 126) rfl rfl, tbi_3 (i := 128) rfl rfl, tbs (i := 8) (by decide +kernel) rfl, tbi_1 (i := 2) rfl rfl, tbi_3 (i := 129) rfl rfl, ⟨by decide +kernel, by decide +kernel, by decide +kernel⟩, by decide⟩
theorem fl_X6_31 : Cond.fieldLink RX6 31 (TX6 5).1 (TX6 5).2.1 (TX6 5).2.2.1 ∈ tb := tbi_1 (i := 120) rfl rfl
theorem fl_X6_34 : Cond.fieldLink RX6 34 (TX6 6).1 (TX6 6).2.1 (TX6 6).2.2.1 ∈ tb := tbi_1 (i := 121) rfl rfl
theorem vl_X6_94 : VL RX6 94 yX6_refuse cX6_refuse 3 (some .boolean) 2 := ⟨tbi_3 (i := 146) rfl rfl, tbi_3 (i := 148) rfl rfl, tbs (i := 13) (by decide +kernel) rfl, tbi_1 (i := 2) rfl rfl, tbi_3 (i := 149) rfl rfl, ⟨by decide +kernel, by decide +kernel, by decide +kernel⟩, by decide⟩
theorem fs_X5_97 : Cond.fieldLink RX5 97 RX5 "ACROSS" "[I" ∈ tb := tbi_3 (i := 158) rfl rfl
theorem fs_X5_103 : Cond.fieldLink RX5 103 RX5 "DOWNWARD" "[I" ∈ tb := tbi_3 (i := 164) rfl rfl
theorem vl_X6_76 : VL RX6 76 yX6_word cX6_word 2 (some .boolean) 1 := ⟨tbi_3 (i := 134) rfl rfl, tbi_3 (i := 136) rfl rfl, tbs (i := 10) (by decide +kernel) rfl, tbi_1 (i := 2) rfl rfl, tbi_3 (i := 137) rfl rfl, ⟨by decide +kernel, by decide +kernel, by decide +kernel⟩, by decide⟩
theorem vl_X6_79 : VL RX6 79 yX6_number cX6_number 3 (some .boolean) 2 := ⟨tbi_3 (i := 142) rfl rfl, tbi_3 (i := 144) rfl rfl, tbs (i := 12) (by decide +kernel) rfl, tbi_1 (i := 2) rfl rfl, tbi_3 (i := 145) rfl rfl, ⟨by decide +kernel, by decide +kernel, by decide +kernel⟩, by decide⟩
theorem vl_X6_82 : VL RX6 82 yX5_spread cX5_spread 5 none 2 := ⟨tbi_3 (i := 150) rfl rfl, tbi_3 (i := 151) rfl rfl, tbi_3 (i := 152) rfl rfl, tbi_1 (i := 8) rfl rfl, tbi_3 (i := 153) rfl rfl, ⟨by decide +kernel, by decide +kernel, by decide +kernel⟩, by decide⟩
theorem fl_X6_49 : Cond.fieldLink RX6 49 (TX6 11).1 (TX6 11).2.1 (TX6 11).2.2.1 ∈ tb := tbi_1 (i := 128) rfl rfl
theorem vl_X6_86 : VL RX6 86 yX6_sign cX6_sign 2 (some .boolean) 1 := ⟨tbi_3 (i := 174) rfl rfl, tbi_3 (i := 176) rfl rfl, tbs (i := 17) (by decide +kernel) rfl, tbi_1 (i := 2) rfl rfl, tbi_3 (i := 177) rfl rfl, ⟨by decide +kernel, by decide +kernel, by decide +kernel⟩, by decide⟩
theorem fl_X6_142 : Cond.fieldLink RX6 142 (TX5 5).1 (TX5 5).2.1 (TX5 5).2.2.1 ∈ tb := tbi_1 (i := 231) rfl rfl
theorem vl_X6_146 : VL RX6 146 yX1_walls cX1_walls 6 (some .int) 0 := ⟨tbi_3 (i := 185) rfl rfl, tbi_3 (i := 186) rfl rfl, tbi_3 (i := 187) rfl rfl, tbi_1 (i := 9) rfl rfl, tbi_3 (i := 188) rfl rfl, ⟨by decide +kernel, by decide +kernel, by decide +kernel⟩, by decide⟩
theorem vl_X6_152 : VL RX6 152 yX5_houses cX5_houses 6 (some .int) 0 := ⟨tbi_3 (i := 189) rfl rfl, tbi_3 (i := 190) rfl rfl, tbi_3 (i := 191) rfl rfl, tbi_1 (i := 8) rfl rfl, tbi_3 (i := 192) rfl rfl, ⟨by decide +kernel, by decide +kernel, by decide +kernel⟩, by decide⟩
theorem fl_X6_155 : Cond.fieldLink RX6 155 (TX5 6).1 (TX5 6).2.1 (TX5 6).2.2.1 ∈ tb := tbi_1 (i := 235) rfl rfl
theorem fl_X6_158 : Cond.fieldLink RX6 158 (TX5 9).1 (TX5 9).2.1 (TX5 9).2.2.1 ∈ tb := tbi_2 (i := 3) rfl rfl
theorem fl_X6_117 : Cond.fieldLink RX6 117 (TX5 16).1 (TX5 16).2.1 (TX5 16).2.2.1 ∈ tb := tbi_2 (i := 25) rfl rfl
theorem vl_X6_161 : VL RX6 161 yX7_isTold cX7_isTold 2 (some .boolean) 1 := ⟨tbi_3 (i := 193) rfl rfl, tbi_3 (i := 194) rfl rfl, tbi_3 (i := 195) rfl rfl, tbi_1 (i := 10) rfl rfl, tbi_3 (i := 196) rfl rfl, ⟨by decide +kernel, by decide +kernel, by decide +kernel⟩, by decide⟩
theorem fl_X6_222 : Cond.fieldLink RX6 222 (TX5 0).1 (TX5 0).2.1 (TX5 0).2.2.1 ∈ tb := tbi_1 (i := 218) rfl rfl
theorem fl_X6_225 : Cond.fieldLink RX6 225 (TX5 1).1 (TX5 1).2.1 (TX5 1).2.2.1 ∈ tb := tbi_1 (i := 221) rfl rfl
theorem vl_X6_228 : VL RX6 228 yX5_cellAt cX5_cellAt 4 (some .int) 2 := ⟨tbi_3 (i := 205) rfl rfl, tbi_3 (i := 167) rfl rfl, tbi_3 (i := 168) rfl rfl, tbi_1 (i := 8) rfl rfl, tbi_3 (i := 169) rfl rfl, ⟨by decide +kernel, by decide +kernel, by decide +kernel⟩, by decide⟩
theorem fl_X6_40 : Cond.fieldLink RX6 40 (TX6 8).1 (TX6 8).2.1 (TX6 8).2.2.1 ∈ tb := tbi_1 (i := 123) rfl rfl
theorem vl_X6_232 : VL RX6 232 yX5_isCell cX5_isCell 2 (some .boolean) 1 := ⟨tbi_3 (i := 206) rfl rfl, tbi_3 (i := 207) rfl rfl, tbi_3 (i := 208) rfl rfl, tbi_1 (i := 8) rfl rfl, tbi_3 (i := 209) rfl rfl, ⟨by decide +kernel, by decide +kernel, by decide +kernel⟩, by decide⟩
theorem vl_X6_235 : VL RX6 235 yX5_contents cX5_contents 4 (some .int) 2 := ⟨tbi_3 (i := 210) rfl rfl, tbi_3 (i := 211) rfl rfl, tbi_3 (i := 212) rfl rfl, tbi_1 (i := 8) rfl rfl, tbi_3 (i := 213) rfl rfl, ⟨by decide +kernel, by decide +kernel, by decide +kernel⟩, by decide⟩
theorem vl_X6_164 : VL RX6 164 yX6_spot cX6_spot 4 (some .boolean) 2 := ⟨tbi_3 (i := 201) rfl rfl, tbi_3 (i := 203) rfl rfl, tbs (i := 20) (by decide +kernel) rfl, tbi_1 (i := 2) rfl rfl, tbi_3 (i := 204) rfl rfl, ⟨by decide +kernel, by decide +kernel, by decide +kernel⟩, by decide⟩
theorem fl_X6_167 : Cond.fieldLink RX6 167 (TX5 3).1 (TX5 3).2.1 (TX5 3).2.2.1 ∈ tb := tbi_1 (i := 225) rfl rfl
theorem fl_X6_170 : Cond.fieldLink RX6 170 (TX1 0).1 (TX1 0).2.1 (TX1 0).2.2.1 ∈ tb := tbi_1 (i := 170) rfl rfl
theorem fl_X6_173 : Cond.fieldLink RX6 173 (TX5 4).1 (TX5 4).2.1 (TX5 4).2.2.1 ∈ tb := tbi_1 (i := 228) rfl rfl
theorem fl_X5_43 : Cond.fieldLink RX5 43 (TX5 8).1 (TX5 8).2.1 (TX5 8).2.2.1 ∈ tb := tbi_1 (i := 239) rfl rfl
theorem fl_X5_61 : Cond.fieldLink RX5 61 (TX5 14).1 (TX5 14).2.1 (TX5 14).2.2.1 ∈ tb := tbi_2 (i := 19) rfl rfl
theorem fl_X6_37 : Cond.fieldLink RX6 37 (TX6 7).1 (TX6 7).2.1 (TX6 7).2.2.1 ∈ tb := tbi_1 (i := 122) rfl rfl
theorem vl_X6_219 : VL RX6 219 yX5_knows cX5_knows 3 (some .boolean) 1 := ⟨tbi_3 (i := 239) rfl rfl, tbi_4 (i := 0) rfl rfl, tbi_4 (i := 1) rfl rfl, tbi_1 (i := 8) rfl rfl, tbi_4 (i := 2) rfl rfl, ⟨by decide +kernel, by decide +kernel, by decide +kernel⟩, by decide⟩
theorem vl_X6_109 : VL RX6 109 yX6_name cX6_name 2 (some .boolean) 1 := ⟨tbi_3 (i := 235) rfl rfl, tbi_3 (i := 237) rfl rfl, tbs (i := 25) (by decide +kernel) rfl, tbi_1 (i := 2) rfl rfl, tbi_3 (i := 238) rfl rfl, ⟨by decide +kernel, by decide +kernel, by decide +kernel⟩, by decide⟩
theorem vl_X6_175 : VL RX6 175 yX5_addCistern cX5_addCistern 3 none 2 := ⟨tbi_4 (i := 3) rfl rfl, tbi_4 (i := 4) rfl rfl, tbi_4 (i := 5) rfl rfl, tbi_1 (i := 8) rfl rfl, tbi_4 (i := 6) rfl rfl, ⟨by decide +kernel, by decide +kernel, by decide +kernel⟩, by decide⟩
theorem fl_X5_49 : Cond.fieldLink RX5 49 (TX5 10).1 (TX5 10).2.1 (TX5 10).2.2.1 ∈ tb := tbi_2 (i := 5) rfl rfl
theorem fl_X5_58 : Cond.fieldLink RX5 58 (TX5 13).1 (TX5 13).2.1 (TX5 13).2.2.1 ∈ tb := tbi_2 (i := 15) rfl rfl
theorem vl_X6_178 : VL RX6 178 yX5_addThing cX5_addThing 4 none 3 := ⟨tbi_4 (i := 11) rfl rfl, tbi_4 (i := 12) rfl rfl, tbi_4 (i := 13) rfl rfl, tbi_1 (i := 8) rfl rfl, tbi_4 (i := 14) rfl rfl, ⟨by decide +kernel, by decide +kernel, by decide +kernel⟩, by decide⟩
theorem vl_X6_182 : VL RX6 182 yX5_addCloth cX5_addCloth 2 none 1 := ⟨tbi_4 (i := 15) rfl rfl, tbi_4 (i := 16) rfl rfl, tbi_4 (i := 17) rfl rfl, tbi_1 (i := 8) rfl rfl, tbi_4 (i := 18) rfl rfl, ⟨by decide +kernel, by decide +kernel, by decide +kernel⟩, by decide⟩
theorem fl_X6_186 : Cond.fieldLink RX6 186 (TX5 15).1 (TX5 15).2.1 (TX5 15).2.2.1 ∈ tb := tbi_2 (i := 23) rfl rfl
theorem fl_X7_19 : Cond.fieldLink RX7 19 (TX7 2).1 (TX7 2).2.1 (TX7 2).2.2.1 ∈ tb := tbi_1 (i := 199) rfl rfl
theorem vl_X6_126 : VL RX6 126 yX6_sum cX6_sum 6 (some .boolean) 2 := ⟨tbi_4 (i := 27) rfl rfl, tbi_4 (i := 29) rfl rfl, tbs (i := 28) (by decide +kernel) rfl, tbi_1 (i := 2) rfl rfl, tbi_4 (i := 30) rfl rfl, ⟨by decide +kernel, by decide +kernel, by decide +kernel⟩, by decide⟩
theorem vl_X6_202 : VL RX6 202 yX7_add cX7_add 2 (some .boolean) 1 := ⟨tbi_4 (i := 39) rfl rfl, tbi_4 (i := 40) rfl rfl, tbi_4 (i := 41) rfl rfl, tbi_1 (i := 10) rfl rfl, tbi_4 (i := 42) rfl rfl, ⟨by decide +kernel, by decide +kernel, by decide +kernel⟩, by decide⟩
theorem sl_X6_208 : SL RX6 208 yX7_codeOf cX7_codeOf 1 (some .int) 1 := ⟨tbi_4 (i := 43) rfl rfl, tbi_4 (i := 44) rfl rfl, tbi_1 (i := 10) rfl rfl, tbi_4 (i := 45) rfl rfl, ⟨by decide +kernel, by decide +kernel, by decide +kernel⟩, by decide⟩
theorem vl_X6_205 : VL RX6 205 yX6_part cX6_part 6 (some .boolean) 2 := ⟨tbi_4 (i := 35) rfl rfl, tbi_4 (i := 37) rfl rfl, tbs (i := 30) (by decide +kernel) rfl, tbi_1 (i := 2) rfl rfl, tbi_4 (i := 38) rfl rfl, ⟨by decide +kernel, by decide +kernel, by decide +kernel⟩, by decide⟩
theorem vl_X6_198 : VL RX6 198 yX6_isSign cX6_isSign 4 (some .boolean) 3 := ⟨tbi_4 (i := 46) rfl rfl, tbi_4 (i := 48) rfl rfl, tbs (i := 31) (by decide +kernel) rfl, tbi_1 (i := 2) rfl rfl, tbi_4 (i := 49) rfl rfl, ⟨by decide +kernel, by decide +kernel, by decide +kernel⟩, by decide⟩
theorem vl_X6_195 : VL RX6 195 yX6_product cX6_product 6 (some .boolean) 2 := ⟨tbi_4 (i := 31) rfl rfl, tbi_4 (i := 33) rfl rfl, tbs (i := 29) (by decide +kernel) rfl, tbi_1 (i := 2) rfl rfl, tbi_4 (i := 34) rfl rfl, ⟨by decide +kernel, by decide +kernel, by decide +kernel⟩, by decide⟩
theorem fl_X6_189 : Cond.fieldLink RX6 189 (TX5 17).1 (TX5 17).2.1 (TX5 17).2.2.1 ∈ tb := tbi_2 (i := 30) rfl rfl
theorem fl_X6_191 : Cond.fieldLink RX6 191 (TX5 18).1 (TX5 18).2.1 (TX5 18).2.2.1 ∈ tb := tbi_2 (i := 33) rfl rfl
theorem fl_X6_193 : Cond.fieldLink RX6 193 (TX5 19).1 (TX5 19).2.1 (TX5 19).2.2.1 ∈ tb := tbi_2 (i := 37) rfl rfl
theorem sl_X6_90 : SL RX6 90 yX6_isOneTooMany cX6_isOneTooMany 2 (some .boolean) 2 := ⟨tbi_3 (i := 182) rfl rfl, tbi_3 (i := 183) rfl rfl, tbi_1 (i := 2) rfl rfl, tbi_3 (i := 184) rfl rfl, ⟨by decide +kernel, by decide +kernel, by decide +kernel⟩, by decide⟩
theorem vl_X6_97 : VL RX6 97 yX6_height cX6_height 3 (some .boolean) 1 := ⟨tbi_3 (i := 197) rfl rfl, tbi_3 (i := 199) rfl rfl, tbs (i := 19) (by decide +kernel) rfl, tbi_1 (i := 2) rfl rfl, tbi_3 (i := 200) rfl rfl, ⟨by decide +kernel, by decide +kernel, by decide +kernel⟩, by decide⟩
theorem vl_X6_100 : VL RX6 100 yX6_wallOf cX6_wallOf 2 (some .boolean) 1 := ⟨tbi_3 (i := 223) rfl rfl, tbi_3 (i := 225) rfl rfl, tbs (i := 22) (by decide +kernel) rfl, tbi_1 (i := 2) rfl rfl, tbi_3 (i := 226) rfl rfl, ⟨by decide +kernel, by decide +kernel, by decide +kernel⟩, by decide⟩
theorem vl_X6_103 : VL RX6 103 yX6_house cX6_house 2 (some .boolean) 1 := ⟨tbi_3 (i := 227) rfl rfl, tbi_3 (i := 229) rfl rfl, tbs (i := 23) (by decide +kernel) rfl, tbi_1 (i := 2) rfl rfl, tbi_3 (i := 230) rfl rfl, ⟨by decide +kernel, by decide +kernel, by decide +kernel⟩, by decide⟩
theorem vl_X6_106 : VL RX6 106 yX6_cisternOf cX6_cisternOf 2 (some .boolean) 1 := ⟨tbi_3 (i := 231) rfl rfl, tbi_3 (i := 233) rfl rfl, tbs (i := 24) (by decide +kernel) rfl, tbi_1 (i := 2) rfl rfl, tbi_3 (i := 234) rfl rfl, ⟨by decide +kernel, by decide +kernel, by decide +kernel⟩, by decide⟩
theorem vl_X6_111 : VL RX6 111 yX6_thingOf cX6_thingOf 4 (some .boolean) 2 := ⟨tbi_4 (i := 7) rfl rfl, tbi_4 (i := 9) rfl rfl, tbs (i := 26) (by decide +kernel) rfl, tbi_1 (i := 2) rfl rfl, tbi_4 (i := 10) rfl rfl, ⟨by decide +kernel, by decide +kernel, by decide +kernel⟩, by decide⟩
theorem vl_X6_114 : VL RX6 114 yX6_letters cX6_letters 3 (some .boolean) 1 := ⟨tbi_4 (i := 19) rfl rfl, tbi_4 (i := 21) rfl rfl, tbs (i := 27) (by decide +kernel) rfl, tbi_1 (i := 2) rfl rfl, tbi_4 (i := 22) rfl rfl, ⟨by decide +kernel, by decide +kernel, by decide +kernel⟩, by decide⟩
theorem vl_X6_123 : VL RX6 123 yX7_begin cX7_begin 2 (some .boolean) 1 := ⟨tbi_4 (i := 23) rfl rfl, tbi_4 (i := 24) rfl rfl, tbi_4 (i := 25) rfl rfl, tbi_1 (i := 10) rfl rfl, tbi_4 (i := 26) rfl rfl, ⟨by decide +kernel, by decide +kernel, by decide +kernel⟩, by decide⟩
theorem vl_X6_130 : VL RX6 130 yX6_drinks cX6_drinks 3 (some .boolean) 1 := ⟨tbi_4 (i := 50) rfl rfl, tbi_4 (i := 52) rfl rfl, tbs (i := 32) (by decide +kernel) rfl, tbi_1 (i := 2) rfl rfl, tbi_4 (i := 53) rfl rfl, ⟨by decide +kernel, by decide +kernel, by decide +kernel⟩, by decide⟩
theorem vl_X6_133 : VL RX6 133 yX6_cloudy cX6_cloudy 3 (some .boolean) 1 := ⟨tbi_4 (i := 54) rfl rfl, tbi_4 (i := 56) rfl rfl, tbs (i := 33) (by decide +kernel) rfl, tbi_1 (i := 2) rfl rfl, tbi_4 (i := 57) rfl rfl, ⟨by decide +kernel, by decide +kernel, by decide +kernel⟩, by decide⟩
theorem vl_X6_136 : VL RX6 136 yX6_wring cX6_wring 3 (some .boolean) 1 := ⟨tbi_4 (i := 58) rfl rfl, tbi_4 (i := 60) rfl rfl, tbs (i := 34) (by decide +kernel) rfl, tbi_1 (i := 2) rfl rfl, tbi_4 (i := 61) rfl rfl, ⟨by decide +kernel, by decide +kernel, by decide +kernel⟩, by decide⟩
theorem vl_X6_52 : VL RX6 52 yX8_cut cX8_cut 5 none 2 := ⟨tbi_3 (i := 69) rfl rfl, tbi_3 (i := 70) rfl rfl, tbi_3 (i := 71) rfl rfl, tbi_1 (i := 3) rfl rfl, tbi_3 (i := 72) rfl rfl, ⟨by decide +kernel, by decide +kernel, by decide +kernel⟩, by decide⟩
theorem vl_X6_56 : VL RX6 56 yX5_clear cX5_clear 1 none 0 := ⟨tbi_3 (i := 109) rfl rfl, tbi_3 (i := 110) rfl rfl, tbi_3 (i := 111) rfl rfl, tbi_1 (i := 8) rfl rfl, tbi_3 (i := 112) rfl rfl, ⟨by decide +kernel, by decide +kernel, by decide +kernel⟩, by decide⟩
theorem vl_X6_65 : VL RX6 65 yX6_size cX6_size 3 (some .boolean) 1 := ⟨tbi_3 (i := 130) rfl rfl, tbi_3 (i := 132) rfl rfl, tbs (i := 9) (by decide +kernel) rfl, tbi_1 (i := 2) rfl rfl, tbi_3 (i := 133) rfl rfl, ⟨by decide +kernel, by decide +kernel, by decide +kernel⟩, by decide⟩
theorem vl_X6_73 : VL RX6 73 yX6_statement cX6_statement 3 (some .boolean) 1 := ⟨tbi_3 (i := 178) rfl rfl, tbi_3 (i := 180) rfl rfl, tbs (i := 18) (by decide +kernel) rfl, tbi_1 (i := 2) rfl rfl, tbi_3 (i := 181) rfl rfl, ⟨by decide +kernel, by decide +kernel, by decide +kernel⟩, by decide⟩
theorem vl_X6_69 : VL RX6 69 yX6_close cX6_close 1 (some .boolean) 0 := ⟨tbi_3 (i := 170) rfl rfl, tbi_3 (i := 172) rfl rfl, tbs (i := 16) (by decide +kernel) rfl, tbi_1 (i := 2) rfl rfl, tbi_3 (i := 173) rfl rfl, ⟨by decide +kernel, by decide +kernel, by decide +kernel⟩, by decide⟩
theorem fl_X2_15 : Cond.fieldLink RX2 15 (TX2 1).1 (TX2 1).2.1 (TX2 1).2.2.1 ∈ tb := tbi_2 (i := 211) rfl rfl
theorem fl_X2_25 : Cond.fieldLink RX2 25 (TX2 4).1 (TX2 4).2.1 (TX2 4).2.2.1 ∈ tb := tbi_2 (i := 214) rfl rfl
theorem fl_X10_31 : Cond.fieldLink RX10 31 (TX10 4).1 (TX10 4).2.1 (TX10 4).2.2.1 ∈ tb := tbi_2 (i := 231) rfl rfl
theorem vl_X10_109 : VL RX10 109 yX6_read cX6_read 6 (some .boolean) 3 := ⟨tbi_3 (i := 65) rfl rfl, tbi_3 (i := 66) rfl rfl, tbi_3 (i := 67) rfl rfl, tbi_1 (i := 2) rfl rfl, tbi_3 (i := 68) rfl rfl, ⟨by decide +kernel, by decide +kernel, by decide +kernel⟩, by decide⟩
theorem fl_X10_113 : Cond.fieldLink RX10 113 (TX5 5).1 (TX5 5).2.1 (TX5 5).2.2.1 ∈ tb := tbi_1 (i := 230) rfl rfl
theorem vl_X10_120 : VL RX10 120 yX4_forget cX4_forget 1 none 0 := ⟨tbi_4 (i := 69) rfl rfl, tbi_4 (i := 70) rfl rfl, tbi_4 (i := 71) rfl rfl, tbi_1 (i := 11) rfl rfl, tbi_4 (i := 72) rfl rfl, ⟨by decide +kernel, by decide +kernel, by decide +kernel⟩, by decide⟩
theorem fl_X10_88 : Cond.fieldLink RX10 88 (TX10 15).1 (TX10 15).2.1 (TX10 15).2.2.1 ∈ tb := tbi_3 (i := 2) rfl rfl
theorem vl_X10_123 : VL RX10 123 yX2_forget cX2_forget 1 none 0 := ⟨tbi_4 (i := 73) rfl rfl, tbi_4 (i := 74) rfl rfl, tbi_4 (i := 75) rfl rfl, tbi_1 (i := 15) rfl rfl, tbi_4 (i := 76) rfl rfl, ⟨by decide +kernel, by decide +kernel, by decide +kernel⟩, by decide⟩
theorem fl_X10_127 : Cond.fieldLink RX10 127 (TX6 11).1 (TX6 11).2.1 (TX6 11).2.2.1 ∈ tb := tbi_1 (i := 129) rfl rfl
theorem fl_X10_189 : Cond.fieldLink RX10 189 (TX5 14).1 (TX5 14).2.1 (TX5 14).2.2.1 ∈ tb := tbi_2 (i := 20) rfl rfl
theorem sl_X10_180 : SL RX10 180 yX8_letterOf cX8_letterOf 2 (some .int) 2 := ⟨tbi_4 (i := 103) rfl rfl, tbi_4 (i := 104) rfl rfl, tbi_1 (i := 3) rfl rfl, tbi_4 (i := 105) rfl rfl, ⟨by decide +kernel, by decide +kernel, by decide +kernel⟩, by decide⟩
theorem fl_X10_177 : Cond.fieldLink RX10 177 (TX5 8).1 (TX5 8).2.1 (TX5 8).2.2.1 ∈ tb := tbi_2 (i := 0) rfl rfl
theorem fl_X9_28 : Cond.fieldLink RX9 28 (TX5 12).1 (TX5 12).2.1 (TX5 12).2.2.1 ∈ tb := tbi_2 (i := 12) rfl rfl
theorem fl_X9_18 : Cond.fieldLink RX9 18 (TX9 2).1 (TX9 2).2.1 (TX9 2).2.2.1 ∈ tb := tbi_2 (i := 150) rfl rfl
theorem fl_X9_31 : Cond.fieldLink RX9 31 (TX5 19).1 (TX5 19).2.1 (TX5 19).2.2.1 ∈ tb := tbi_2 (i := 35) rfl rfl
theorem fl_X9_22 : Cond.fieldLink RX9 22 (TX9 3).1 (TX9 3).2.1 (TX9 3).2.2.1 ∈ tb := tbi_2 (i := 151) rfl rfl
theorem fl_X9_34 : Cond.fieldLink RX9 34 (TX5 13).1 (TX5 13).2.1 (TX5 13).2.2.1 ∈ tb := tbi_2 (i := 16) rfl rfl
theorem fl_X9_9 : Cond.fieldLink RX9 9 (TX9 0).1 (TX9 0).2.1 (TX9 0).2.2.1 ∈ tb := tbi_2 (i := 148) rfl rfl
theorem vl_X9_37 : VL RX9 37 yX3_dawn cX3_dawn 2 (some .int) 1 := ⟨tbi_5 (i := 124) rfl rfl, tbi_4 (i := 227) rfl rfl, tbi_4 (i := 228) rfl rfl, tbi_1 (i := 12) rfl rfl, tbi_4 (i := 229) rfl rfl, ⟨by decide +kernel, by decide +kernel, by decide +kernel⟩, by decide⟩
theorem fl_X9_15 : Cond.fieldLink RX9 15 (TX9 1).1 (TX9 1).2.1 (TX9 1).2.2.1 ∈ tb := tbi_2 (i := 149) rfl rfl
theorem fl_X9_43 : Cond.fieldLink RX9 43 (TX1 1).1 (TX1 1).2.1 (TX1 1).2.2.1 ∈ tb := tbi_1 (i := 174) rfl rfl
theorem vl_X9_48 : VL RX9 48 yX5_sun cX5_sun 5 (some .int) 2 := ⟨tbi_5 (i := 125) rfl rfl, tbi_4 (i := 125) rfl rfl, tbi_4 (i := 126) rfl rfl, tbi_1 (i := 8) rfl rfl, tbi_4 (i := 127) rfl rfl, ⟨by decide +kernel, by decide +kernel, by decide +kernel⟩, by decide⟩
theorem k_J6_265 : Cond.constant RJ6 265 (1431655765) ∈ tb := tbi_5 (i := 137) rfl rfl
theorem k_J6_266 : Cond.constant RJ6 266 (858993459) ∈ tb := tbi_5 (i := 138) rfl rfl
theorem k_J6_267 : Cond.constant RJ6 267 (252645135) ∈ tb := tbi_5 (i := 139) rfl rfl
theorem vl_X9_71 : VL RX9 71 yX9_together cX9_together 4 (some .int) 1 := ⟨tbi_5 (i := 217) rfl rfl, tbi_5 (i := 219) rfl rfl, tbs (i := 55) (by decide +kernel) rfl, tbi_1 (i := 13) rfl rfl, tbi_5 (i := 220) rfl rfl, ⟨by decide +kernel, by decide +kernel, by decide +kernel⟩, by decide⟩
theorem sl_X9_60 : SL RX9 60 yJ6_bitCount_0f7a4 cJ6_bitCount_0f7a4 1 (some .int) 1 := ⟨tbi_5 (i := 134) rfl rfl, tbi_5 (i := 135) rfl rfl, tbi_1 (i := 20) rfl rfl, tbi_5 (i := 136) rfl rfl, ⟨by decide +kernel, by decide +kernel, by decide +kernel⟩, by decide⟩
theorem fl_X10_74 : Cond.fieldLink RX10 74 (TX10 13).1 (TX10 13).2.1 (TX10 13).2.2.1 ∈ tb := tbi_3 (i := 0) rfl rfl
theorem vl_X10_326 : VL RX10 326 yX9_prepare cX9_prepare 6 none 3 := ⟨tbi_5 (i := 120) rfl rfl, tbi_5 (i := 121) rfl rfl, tbi_5 (i := 122) rfl rfl, tbi_1 (i := 13) rfl rfl, tbi_5 (i := 123) rfl rfl, ⟨by decide +kernel, by decide +kernel, by decide +kernel⟩, by decide⟩
theorem vl_X10_359 : VL RX10 359 yX9_leastLinen cX9_leastLinen 5 (some .int) 1 := ⟨tbi_5 (i := 213) rfl rfl, tbi_5 (i := 214) rfl rfl, tbi_5 (i := 215) rfl rfl, tbi_1 (i := 13) rfl rfl, tbi_5 (i := 216) rfl rfl, ⟨by decide +kernel, by decide +kernel, by decide +kernel⟩, by decide⟩
theorem sl_X10_362 : SL RX10 362 yJ6_bitCount_0f7a4 cJ6_bitCount_0f7a4 1 (some .int) 1 := ⟨tbi_5 (i := 221) rfl rfl, tbi_5 (i := 135) rfl rfl, tbi_1 (i := 20) rfl rfl, tbi_5 (i := 136) rfl rfl, ⟨by decide +kernel, by decide +kernel, by decide +kernel⟩, by decide⟩
theorem fl_X1_42 : Cond.fieldLink RX1 42 (TX3 8).1 (TX3 8).2.1 (TX3 8).2.2.1 ∈ tb := tbi_2 (i := 121) rfl rfl
theorem ml_X1_60 : ML RX1 60 Lib.Math.min.name Lib.Math.min.code 2 (some .int) := ⟨tbi_5 (i := 87) rfl rfl, tbi_4 (i := 156) rfl rfl, tbi_1 (i := 19) rfl rfl, tbi_4 (i := 157) rfl rfl⟩
theorem fl_X1_37 : Cond.fieldLink RX1 37 (TX5 6).1 (TX5 6).2.1 (TX5 6).2.2.1 ∈ tb := tbi_1 (i := 234) rfl rfl
theorem vl_X1_47 : VL RX1 47 yX1_filled cX1_filled 3 (some .int) 2 := ⟨tbi_5 (i := 83) rfl rfl, tbi_5 (i := 85) rfl rfl, tbs (i := 44) (by decide +kernel) rfl, tbi_1 (i := 9) rfl rfl, tbi_5 (i := 86) rfl rfl, ⟨by decide +kernel, by decide +kernel, by decide +kernel⟩, by decide⟩
theorem fl_X1_51 : Cond.fieldLink RX1 51 (TX5 17).1 (TX5 17).2.1 (TX5 17).2.2.1 ∈ tb := tbi_2 (i := 28) rfl rfl
theorem ml_X1_54 : ML RX1 54 Lib.Math.max.name Lib.Math.max.code 2 (some .int) := ⟨tbi_5 (i := 88) rfl rfl, tbi_4 (i := 222) rfl rfl, tbi_1 (i := 19) rfl rfl, tbi_4 (i := 223) rfl rfl⟩
theorem vl_X10_300 : VL RX10 300 yX10_canPass cX10_canPass 2 (some .boolean) 1 := ⟨tbi_5 (i := 75) rfl rfl, tbi_5 (i := 77) rfl rfl, tbs (i := 43) (by decide +kernel) rfl, tbi_1 (i := 1) rfl rfl, tbi_5 (i := 78) rfl rfl, ⟨by decide +kernel, by decide +kernel, by decide +kernel⟩, by decide⟩
theorem vl_X10_303 : VL RX10 303 yX1_pour cX1_pour 5 (some .int) 2 := ⟨tbi_5 (i := 79) rfl rfl, tbi_5 (i := 80) rfl rfl, tbi_5 (i := 81) rfl rfl, tbi_1 (i := 9) rfl rfl, tbi_5 (i := 82) rfl rfl, ⟨by decide +kernel, by decide +kernel, by decide +kernel⟩, by decide⟩
theorem vl_X10_307 : VL RX10 307 yX10_drawSky cX10_drawSky 2 none 0 := ⟨tbi_5 (i := 93) rfl rfl, tbi_5 (i := 95) rfl rfl, tbs (i := 45) (by decide +kernel) rfl, tbi_1 (i := 1) rfl rfl, tbi_5 (i := 96) rfl rfl, ⟨by decide +kernel, by decide +kernel, by decide +kernel⟩, by decide⟩
theorem vl_X10_410 : VL RX10 410 yX10_isImage cX10_isImage 4 (some .boolean) 1 := ⟨tbi_6 (i := 71) rfl rfl, tbi_6 (i := 73) rfl rfl, tbs (i := 61) (by decide +kernel) rfl, tbi_1 (i := 1) rfl rfl, tbi_6 (i := 74) rfl rfl, ⟨by decide +kernel, by decide +kernel, by decide +kernel⟩, by decide⟩
theorem ml_X9_51 : ML RX9 51 Lib.Math.max.name Lib.Math.max.code 2 (some .int) := ⟨tbi_5 (i := 144) rfl rfl, tbi_4 (i := 222) rfl rfl, tbi_1 (i := 19) rfl rfl, tbi_4 (i := 223) rfl rfl⟩
theorem vl_X9_65 : VL RX9 65 yX9_gotFrom cX9_gotFrom 4 (some .int) 2 := ⟨tbi_5 (i := 140) rfl rfl, tbi_5 (i := 141) rfl rfl, tbi_5 (i := 142) rfl rfl, tbi_1 (i := 13) rfl rfl, tbi_5 (i := 143) rfl rfl, ⟨by decide +kernel, by decide +kernel, by decide +kernel⟩, by decide⟩
theorem fl_X9_25 : Cond.fieldLink RX9 25 (TX9 4).1 (TX9 4).2.1 (TX9 4).2.2.1 ∈ tb := tbi_2 (i := 152) rfl rfl
theorem vl_X9_57 : VL RX9 57 yX9_gotBy cX9_gotBy 3 (some .int) 2 := ⟨tbi_5 (i := 130) rfl rfl, tbi_5 (i := 132) rfl rfl, tbs (i := 47) (by decide +kernel) rfl, tbi_1 (i := 13) rfl rfl, tbi_5 (i := 133) rfl rfl, ⟨by decide +kernel, by decide +kernel, by decide +kernel⟩, by decide⟩
theorem vl_X9_68 : VL RX9 68 yX9_nextBy cX9_nextBy 3 (some .int) 1 := ⟨tbi_5 (i := 153) rfl rfl, tbi_5 (i := 155) rfl rfl, tbs (i := 48) (by decide +kernel) rfl, tbi_1 (i := 13) rfl rfl, tbi_5 (i := 156) rfl rfl, ⟨by decide +kernel, by decide +kernel, by decide +kernel⟩, by decide⟩
theorem vl_X10_330 : VL RX10 330 yX9_findOrder cX9_findOrder 4 none 0 := ⟨tbi_5 (i := 126) rfl rfl, tbi_5 (i := 127) rfl rfl, tbi_5 (i := 128) rfl rfl, tbi_1 (i := 13) rfl rfl, tbi_5 (i := 129) rfl rfl, ⟨by decide +kernel, by decide +kernel, by decide +kernel⟩, by decide⟩
theorem vl_X10_336 : VL RX10 336 yX9_wrungAt cX9_wrungAt 5 (some .int) 1 := ⟨tbi_5 (i := 149) rfl rfl, tbi_5 (i := 150) rfl rfl, tbi_5 (i := 151) rfl rfl, tbi_1 (i := 13) rfl rfl, tbi_5 (i := 152) rfl rfl, ⟨by decide +kernel, by decide +kernel, by decide +kernel⟩, by decide⟩
theorem vl_X10_333 : VL RX10 333 yX9_mostGot cX9_mostGot 1 (some .int) 0 := ⟨tbi_5 (i := 145) rfl rfl, tbi_5 (i := 146) rfl rfl, tbi_5 (i := 147) rfl rfl, tbi_1 (i := 13) rfl rfl, tbi_5 (i := 148) rfl rfl, ⟨by decide +kernel, by decide +kernel, by decide +kernel⟩, by decide⟩
theorem vl_X10_397 : VL RX10 397 yX1_firstTooDry cX1_firstTooDry 4 (some .int) 2 := ⟨tbi_6 (i := 44) rfl rfl, tbi_6 (i := 45) rfl rfl, tbi_6 (i := 46) rfl rfl, tbi_1 (i := 9) rfl rfl, tbi_6 (i := 47) rfl rfl, ⟨by decide +kernel, by decide +kernel, by decide +kernel⟩, by decide⟩
theorem fl_X10_217 : Cond.fieldLink RX10 217 (TX5 10).1 (TX5 10).2.1 (TX5 10).2.2.1 ∈ tb := tbi_2 (i := 8) rfl rfl
theorem fl_X10_220 : Cond.fieldLink RX10 220 (TX5 11).1 (TX5 11).2.1 (TX5 11).2.2.1 ∈ tb := tbi_2 (i := 10) rfl rfl
theorem vl_X10_223 : VL RX10 223 yX5_nearest cX5_nearest 6 (some .int) 1 := ⟨tbi_4 (i := 136) rfl rfl, tbi_4 (i := 137) rfl rfl, tbi_4 (i := 138) rfl rfl, tbi_1 (i := 8) rfl rfl, tbi_4 (i := 139) rfl rfl, ⟨by decide +kernel, by decide +kernel, by decide +kernel⟩, by decide⟩
theorem vl_X10_230 : VL RX10 230 yX3_dawn cX3_dawn 2 (some .int) 1 := ⟨tbi_4 (i := 226) rfl rfl, tbi_4 (i := 227) rfl rfl, tbi_4 (i := 228) rfl rfl, tbi_1 (i := 12) rfl rfl, tbi_4 (i := 229) rfl rfl, ⟨by decide +kernel, by decide +kernel, by decide +kernel⟩, by decide⟩
theorem vl_X10_314 : VL RX10 314 yX4_restore cX4_restore 2 none 1 := ⟨tbi_5 (i := 108) rfl rfl, tbi_5 (i := 109) rfl rfl, tbi_5 (i := 110) rfl rfl, tbi_1 (i := 11) rfl rfl, tbi_5 (i := 111) rfl rfl, ⟨by decide +kernel, by decide +kernel, by decide +kernel⟩, by decide⟩
theorem fl_X2_22 : Cond.fieldLink RX2 22 (TX2 3).1 (TX2 3).2.1 (TX2 3).2.2.1 ∈ tb := tbi_2 (i := 213) rfl rfl
theorem vl_X10_394 : VL RX10 394 yX2_firstAt cX2_firstAt 2 (some .int) 1 := ⟨tbi_6 (i := 36) rfl rfl, tbi_6 (i := 37) rfl rfl, tbi_6 (i := 38) rfl rfl, tbi_1 (i := 15) rfl rfl, tbi_6 (i := 39) rfl rfl, ⟨by decide +kernel, by decide +kernel, by decide +kernel⟩, by decide⟩
theorem fl_X2_9 : Cond.fieldLink RX2 9 (TX2 0).1 (TX2 0).2.1 (TX2 0).2.2.1 ∈ tb := tbi_2 (i := 210) rfl rfl
theorem fl_X2_19 : Cond.fieldLink RX2 19 (TX2 2).1 (TX2 2).2.1 (TX2 2).2.2.1 ∈ tb := tbi_2 (i := 212) rfl rfl
theorem al_X2_50 : AL RX2 50 := ⟨tbi_6 (i := 27) rfl rfl, tbi_4 (i := 68) rfl rfl, tbi_4 (i := 67) rfl rfl, tbi_1 (i := 18) rfl rfl⟩
theorem vl_X2_46 : VL RX2 46 yX5_areNext cX5_areNext 3 (some .boolean) 2 := ⟨tbi_6 (i := 28) rfl rfl, tbi_6 (i := 29) rfl rfl, tbi_6 (i := 30) rfl rfl, tbi_1 (i := 8) rfl rfl, tbi_6 (i := 31) rfl rfl, ⟨by decide +kernel, by decide +kernel, by decide +kernel⟩, by decide⟩
theorem sl_X2_39 : SL RX2 39 yX2_tread cX2_tread 7 none 5 := ⟨tbi_6 (i := 20) rfl rfl, tbi_6 (i := 21) rfl rfl, tbi_1 (i := 15) rfl rfl, tbi_6 (i := 22) rfl rfl, ⟨by decide +kernel, by decide +kernel, by decide +kernel⟩, by decide⟩
theorem vl_X2_43 : VL RX2 43 yX2_keep cX2_keep 1 none 0 := ⟨tbi_6 (i := 23) rfl rfl, tbi_6 (i := 25) rfl rfl, tbs (i := 58) (by decide +kernel) rfl, tbi_1 (i := 15) rfl rfl, tbi_6 (i := 26) rfl rfl, ⟨by decide +kernel, by decide +kernel, by decide +kernel⟩, by decide⟩
theorem vl_X2_28 : VL RX2 28 yX1_hasWall cX1_hasWall 2 (some .boolean) 1 := ⟨tbi_6 (i := 15) rfl rfl, tbi_3 (i := 215) rfl rfl, tbi_3 (i := 216) rfl rfl, tbi_1 (i := 9) rfl rfl, tbi_3 (i := 217) rfl rfl, ⟨by decide +kernel, by decide +kernel, by decide +kernel⟩, by decide⟩
theorem vl_X2_34 : VL RX2 34 yX5_isAtEdge cX5_isAtEdge 4 (some .boolean) 1 := ⟨tbi_6 (i := 16) rfl rfl, tbi_6 (i := 17) rfl rfl, tbi_6 (i := 18) rfl rfl, tbi_1 (i := 8) rfl rfl, tbi_6 (i := 19) rfl rfl, ⟨by decide +kernel, by decide +kernel, by decide +kernel⟩, by decide⟩
theorem vl_X10_339 : VL RX10 339 yX10_unlikeBytes cX10_unlikeBytes 5 (some .boolean) 2 := ⟨tbi_5 (i := 161) rfl rfl, tbi_5 (i := 163) rfl rfl, tbs (i := 49) (by decide +kernel) rfl, tbi_1 (i := 1) rfl rfl, tbi_5 (i := 164) rfl rfl, ⟨by decide +kernel, by decide +kernel, by decide +kernel⟩, by decide⟩
theorem vl_X10_383 : VL RX10 383 yX2_tell cX2_tell 5 none 2 := ⟨tbi_6 (i := 7) rfl rfl, tbi_6 (i := 8) rfl rfl, tbi_6 (i := 9) rfl rfl, tbi_1 (i := 15) rfl rfl, tbi_6 (i := 10) rfl rfl, ⟨by decide +kernel, by decide +kernel, by decide +kernel⟩, by decide⟩
theorem vl_X10_387 : VL RX10 387 yX2_findWalks cX2_findWalks 4 none 2 := ⟨tbi_6 (i := 11) rfl rfl, tbi_6 (i := 12) rfl rfl, tbi_6 (i := 13) rfl rfl, tbi_1 (i := 15) rfl rfl, tbi_6 (i := 14) rfl rfl, ⟨by decide +kernel, by decide +kernel, by decide +kernel⟩, by decide⟩
theorem fl_X10_391 : Cond.fieldLink RX10 391 (TX2 4).1 (TX2 4).2.1 (TX2 4).2.2.1 ∈ tb := tbi_2 (i := 215) rfl rfl
theorem vl_X3_135 : VL RX3 135 yX3_cameIn cX3_cameIn 5 (some .int) 2 := ⟨tbi_5 (i := 28) rfl rfl, tbi_5 (i := 30) rfl rfl, tbs (i := 42) (by decide +kernel) rfl, tbi_1 (i := 12) rfl rfl, tbi_5 (i := 31) rfl rfl, ⟨by decide +kernel, by decide +kernel, by decide +kernel⟩, by decide⟩
theorem vl_X3_139 : VL RX3 139 yX3_allCame cX3_allCame 4 (some .int) 1 := ⟨tbi_5 (i := 36) rfl rfl, tbi_5 (i := 25) rfl rfl, tbi_5 (i := 26) rfl rfl, tbi_1 (i := 12) rfl rfl, tbi_5 (i := 27) rfl rfl, ⟨by decide +kernel, by decide +kernel, by decide +kernel⟩, by decide⟩
theorem vl_X3_143 : VL RX3 143 yX3_allByDawn cX3_allByDawn 4 (some .int) 1 := ⟨tbi_5 (i := 37) rfl rfl, tbi_5 (i := 38) rfl rfl, tbi_5 (i := 39) rfl rfl, tbi_1 (i := 12) rfl rfl, tbi_5 (i := 40) rfl rfl, ⟨by decide +kernel, by decide +kernel, by decide +kernel⟩, by decide⟩
theorem vl_X10_268 : VL RX10 268 yX3_allCame cX3_allCame 4 (some .int) 1 := ⟨tbi_5 (i := 24) rfl rfl, tbi_5 (i := 25) rfl rfl, tbi_5 (i := 26) rfl rfl, tbi_1 (i := 12) rfl rfl, tbi_5 (i := 27) rfl rfl, ⟨by decide +kernel, by decide +kernel, by decide +kernel⟩, by decide⟩
theorem vl_X10_272 : VL RX10 272 yX3_allDried cX3_allDried 2 (some .int) 1 := ⟨tbi_5 (i := 32) rfl rfl, tbi_5 (i := 33) rfl rfl, tbi_5 (i := 34) rfl rfl, tbi_1 (i := 12) rfl rfl, tbi_5 (i := 35) rfl rfl, ⟨by decide +kernel, by decide +kernel, by decide +kernel⟩, by decide⟩
theorem vl_X10_275 : VL RX10 275 yX3_allByDawn cX3_allByDawn 4 (some .int) 1 := ⟨tbi_5 (i := 42) rfl rfl, tbi_5 (i := 38) rfl rfl, tbi_5 (i := 39) rfl rfl, tbi_1 (i := 12) rfl rfl, tbi_5 (i := 40) rfl rfl, ⟨by decide +kernel, by decide +kernel, by decide +kernel⟩, by decide⟩
theorem vl_X10_278 : VL RX10 278 yX3_fullestHour cX3_fullestHour 6 (some .int) 1 := ⟨tbi_5 (i := 43) rfl rfl, tbi_5 (i := 44) rfl rfl, tbi_5 (i := 45) rfl rfl, tbi_1 (i := 12) rfl rfl, tbi_5 (i := 46) rfl rfl, ⟨by decide +kernel, by decide +kernel, by decide +kernel⟩, by decide⟩
theorem vl_X10_281 : VL RX10 281 yX3_fullestThing cX3_fullestThing 5 (some .int) 1 := ⟨tbi_5 (i := 47) rfl rfl, tbi_5 (i := 48) rfl rfl, tbi_5 (i := 49) rfl rfl, tbi_1 (i := 12) rfl rfl, tbi_5 (i := 50) rfl rfl, ⟨by decide +kernel, by decide +kernel, by decide +kernel⟩, by decide⟩
theorem vl_X10_343 : VL RX10 343 yX9_gotFrom cX9_gotFrom 4 (some .int) 2 := ⟨tbi_5 (i := 165) rfl rfl, tbi_5 (i := 141) rfl rfl, tbi_5 (i := 142) rfl rfl, tbi_1 (i := 13) rfl rfl, tbi_5 (i := 143) rfl rfl, ⟨by decide +kernel, by decide +kernel, by decide +kernel⟩, by decide⟩
theorem fl_X11_117 : Cond.fieldLink RX11 117 (TX11 35).1 (TX11 35).2.1 (TX11 35).2.2.1 ∈ tb := tbi_6 (i := 147) rfl rfl
theorem fl_X11_133 : Cond.fieldLink RX11 133 (TX11 40).1 (TX11 40).2.1 (TX11 40).2.2.1 ∈ tb := tbi_6 (i := 152) rfl rfl
theorem fl_X11_130 : Cond.fieldLink RX11 130 (TX11 39).1 (TX11 39).2.1 (TX11 39).2.2.1 ∈ tb := tbi_6 (i := 151) rfl rfl
theorem fl_X11_120 : Cond.fieldLink RX11 120 (TX11 36).1 (TX11 36).2.1 (TX11 36).2.2.1 ∈ tb := tbi_6 (i := 148) rfl rfl
theorem k_X11_280 : Cond.constantLong RX11 280 (115944460480100) ∈ tb := tbi_7 (i := 141) rfl rfl
theorem k_X11_282 : Cond.constantLong RX11 282 (114784769370228) ∈ tb := tbi_7 (i := 142) rfl rfl
theorem k_X11_284 : Cond.constantLong RX11 284 (24948) ∈ tb := tbi_7 (i := 143) rfl rfl
theorem k_X11_286 : Cond.constantLong RX11 286 (2002873452) ∈ tb := tbi_7 (i := 144) rfl rfl
theorem k_X11_288 : Cond.constantLong RX11 288 (448546567013) ∈ tb := tbi_7 (i := 145) rfl rfl
theorem k_X11_290 : Cond.constantLong RX11 290 (27981967289315950) ∈ tb := tbi_7 (i := 146) rfl rfl
theorem k_X11_292 : Cond.constantLong RX11 292 (427021005928) ∈ tb := tbi_7 (i := 147) rfl rfl
theorem k_X11_294 : Cond.constantLong RX11 294 (499850634611) ∈ tb := tbi_7 (i := 148) rfl rfl
theorem k_X11_296 : Cond.constantLong RX11 296 (495874698853) ∈ tb := tbi_7 (i := 149) rfl rfl
theorem k_X11_298 : Cond.constantLong RX11 298 (7824738) ∈ tb := tbi_7 (i := 150) rfl rfl
theorem k_X11_300 : Cond.constantLong RX11 300 (7564153) ∈ tb := tbi_7 (i := 151) rfl rfl
theorem k_X11_302 : Cond.constantLong RX11 302 (6579575) ∈ tb := tbi_7 (i := 152) rfl rfl
theorem k_X11_304 : Cond.constantLong RX11 304 (431416239475) ∈ tb := tbi_7 (i := 153) rfl rfl
theorem k_X11_306 : Cond.constantLong RX11 306 (110442557893491) ∈ tb := tbi_7 (i := 154) rfl rfl
theorem k_X11_308 : Cond.constantLong RX11 308 (109317377582201) ∈ tb := tbi_7 (i := 155) rfl rfl
theorem k_X11_310 : Cond.constantLong RX11 310 (513020620391) ∈ tb := tbi_7 (i := 156) rfl rfl
theorem k_X11_312 : Cond.constantLong RX11 312 (1869636974) ∈ tb := tbi_7 (i := 157) rfl rfl
theorem k_X11_314 : Cond.constantLong RX11 314 (1751738216) ∈ tb := tbi_7 (i := 158) rfl rfl
theorem k_X11_316 : Cond.constantLong RX11 316 (1668246628) ∈ tb := tbi_7 (i := 159) rfl rfl
theorem k_X11_318 : Cond.constantLong RX11 318 (1752135026) ∈ tb := tbi_7 (i := 160) rfl rfl
theorem k_X11_320 : Cond.constantLong RX11 320 (427021006180) ∈ tb := tbi_7 (i := 161) rfl rfl
theorem k_X11_322 : Cond.constantLong RX11 322 (2003398244) ∈ tb := tbi_7 (i := 162) rfl rfl
theorem k_X11_324 : Cond.constantLong RX11 324 (495757257573) ∈ tb := tbi_7 (i := 163) rfl rfl
theorem k_X11_326 : Cond.constantLong RX11 326 (1852137842) ∈ tb := tbi_7 (i := 164) rfl rfl
theorem k_X11_328 : Cond.constantLong RX11 328 (7824756) ∈ tb := tbi_7 (i := 165) rfl rfl
theorem k_X11_330 : Cond.constantLong RX11 330 (7170414) ∈ tb := tbi_7 (i := 166) rfl rfl
theorem k_X11_332 : Cond.constantLong RX11 332 (7168376) ∈ tb := tbi_7 (i := 167) rfl rfl
theorem fl_X11_26 : Cond.fieldLink RX11 26 (TX11 5).1 (TX11 5).2.1 (TX11 5).2.2.1 ∈ tb := tbi_6 (i := 117) rfl rfl
theorem fl_X11_17 : Cond.fieldLink RX11 17 (TX11 2).1 (TX11 2).2.1 (TX11 2).2.2.1 ∈ tb := tbi_6 (i := 114) rfl rfl
theorem fl_X11_7 : Cond.fieldLink RX11 7 (TX11 0).1 (TX11 0).2.1 (TX11 0).2.2.1 ∈ tb := tbi_6 (i := 112) rfl rfl
theorem fl_X11_23 : Cond.fieldLink RX11 23 (TX11 4).1 (TX11 4).2.1 (TX11 4).2.2.1 ∈ tb := tbi_6 (i := 116) rfl rfl
theorem fl_X11_20 : Cond.fieldLink RX11 20 (TX11 3).1 (TX11 3).2.1 (TX11 3).2.2.1 ∈ tb := tbi_6 (i := 115) rfl rfl
theorem fl_X11_48 : Cond.fieldLink RX11 48 (TX11 12).1 (TX11 12).2.1 (TX11 12).2.2.1 ∈ tb := tbi_6 (i := 124) rfl rfl
theorem sl_X11_260 : SL RX11 260 yX11_isLetter cX11_isLetter 1 (some .boolean) 1 := ⟨tbi_7 (i := 131) rfl rfl, tbi_7 (i := 132) rfl rfl, tbi_1 (i := 16) rfl rfl, tbi_7 (i := 133) rfl rfl, ⟨by decide +kernel, by decide +kernel, by decide +kernel⟩, by decide⟩
theorem sl_X11_264 : SL RX11 264 yX11_isDigit cX11_isDigit 1 (some .boolean) 1 := ⟨tbi_7 (i := 134) rfl rfl, tbi_7 (i := 135) rfl rfl, tbi_1 (i := 16) rfl rfl, tbi_7 (i := 136) rfl rfl, ⟨by decide +kernel, by decide +kernel, by decide +kernel⟩, by decide⟩
theorem fl_X11_29 : Cond.fieldLink RX11 29 (TX11 6).1 (TX11 6).2.1 (TX11 6).2.2.1 ∈ tb := tbi_6 (i := 118) rfl rfl
theorem fl_X11_32 : Cond.fieldLink RX11 32 (TX11 7).1 (TX11 7).2.1 (TX11 7).2.2.1 ∈ tb := tbi_6 (i := 119) rfl rfl
theorem vl_X11_267 : VL RX11 267 yX11_isOwn cX11_isOwn 3 (some .boolean) 1 := ⟨tbi_7 (i := 137) rfl rfl, tbi_7 (i := 139) rfl rfl, tbs (i := 70) (by decide +kernel) rfl, tbi_1 (i := 16) rfl rfl, tbi_7 (i := 140) rfl rfl, ⟨by decide +kernel, by decide +kernel, by decide +kernel⟩, by decide⟩
theorem fl_X11_84 : Cond.fieldLink RX11 84 (TX11 24).1 (TX11 24).2.1 (TX11 24).2.2.1 ∈ tb := tbi_6 (i := 136) rfl rfl
theorem fl_X11_51 : Cond.fieldLink RX11 51 (TX11 13).1 (TX11 13).2.1 (TX11 13).2.2.1 ∈ tb := tbi_6 (i := 125) rfl rfl
theorem fl_X11_81 : Cond.fieldLink RX11 81 (TX11 23).1 (TX11 23).2.1 (TX11 23).2.2.1 ∈ tb := tbi_6 (i := 135) rfl rfl
theorem vl_X11_442 : VL RX11 442 yX11_sortOf cX11_sortOf 2 (some .int) 1 := ⟨tbi_8 (i := 101) rfl rfl, tbi_8 (i := 103) rfl rfl, tbs (i := 108) (by decide +kernel) rfl, tbi_1 (i := 16) rfl rfl, tbi_8 (i := 104) rfl rfl, ⟨by decide +kernel, by decide +kernel, by decide +kernel⟩, by decide⟩
theorem fl_X11_164 : Cond.fieldLink RX11 164 (TX11 50).1 (TX11 50).2.1 (TX11 50).2.2.1 ∈ tb := tbi_6 (i := 162) rfl rfl
theorem fl_X11_167 : Cond.fieldLink RX11 167 (TX11 51).1 (TX11 51).2.1 (TX11 51).2.2.1 ∈ tb := tbi_6 (i := 163) rfl rfl
theorem fl_X11_170 : Cond.fieldLink RX11 170 (TX11 52).1 (TX11 52).2.1 (TX11 52).2.2.1 ∈ tb := tbi_6 (i := 164) rfl rfl
theorem fl_X11_173 : Cond.fieldLink RX11 173 (TX11 53).1 (TX11 53).2.1 (TX11 53).2.2.1 ∈ tb := tbi_6 (i := 165) rfl rfl
theorem fl_X11_54 : Cond.fieldLink RX11 54 (TX11 14).1 (TX11 14).2.1 (TX11 14).2.2.1 ∈ tb := tbi_6 (i := 126) rfl rfl
theorem fl_X11_57 : Cond.fieldLink RX11 57 (TX11 15).1 (TX11 15).2.1 (TX11 15).2.2.1 ∈ tb := tbi_6 (i := 127) rfl rfl
theorem fl_X11_66 : Cond.fieldLink RX11 66 (TX11 18).1 (TX11 18).2.1 (TX11 18).2.2.1 ∈ tb := tbi_6 (i := 130) rfl rfl
theorem fl_X11_75 : Cond.fieldLink RX11 75 (TX11 21).1 (TX11 21).2.1 (TX11 21).2.2.1 ∈ tb := tbi_6 (i := 133) rfl rfl
theorem fl_X11_78 : Cond.fieldLink RX11 78 (TX11 22).1 (TX11 22).2.1 (TX11 22).2.2.1 ∈ tb := tbi_6 (i := 134) rfl rfl
theorem vl_X11_451 : VL RX11 451 yX11_isWall cX11_isWall 3 (some .boolean) 2 := ⟨tbi_8 (i := 130) rfl rfl, tbi_8 (i := 132) rfl rfl, tbs (i := 113) (by decide +kernel) rfl, tbi_1 (i := 16) rfl rfl, tbi_8 (i := 133) rfl rfl, ⟨by decide +kernel, by decide +kernel, by decide +kernel⟩, by decide⟩
theorem vl_X11_458 : VL RX11 458 yX11_isHouse cX11_isHouse 2 (some .boolean) 1 := ⟨tbi_8 (i := 134) rfl rfl, tbi_8 (i := 136) rfl rfl, tbs (i := 114) (by decide +kernel) rfl, tbi_1 (i := 16) rfl rfl, tbi_8 (i := 137) rfl rfl, ⟨by decide +kernel, by decide +kernel, by decide +kernel⟩, by decide⟩
theorem vl_X11_461 : VL RX11 461 yX11_thingAt cX11_thingAt 4 (some .int) 2 := ⟨tbi_8 (i := 138) rfl rfl, tbi_8 (i := 140) rfl rfl, tbs (i := 115) (by decide +kernel) rfl, tbi_1 (i := 16) rfl rfl, tbi_8 (i := 141) rfl rfl, ⟨by decide +kernel, by decide +kernel, by decide +kernel⟩, by decide⟩
theorem vl_X11_464 : VL RX11 464 yX11_cisternAt cX11_cisternAt 3 (some .int) 1 := ⟨tbi_8 (i := 142) rfl rfl, tbi_8 (i := 144) rfl rfl, tbs (i := 116) (by decide +kernel) rfl, tbi_1 (i := 16) rfl rfl, tbi_8 (i := 145) rfl rfl, ⟨by decide +kernel, by decide +kernel, by decide +kernel⟩, by decide⟩
theorem vl_X11_535 : VL RX11 535 yX11_whatIn cX11_whatIn 2 (some .int) 1 := ⟨tbi_8 (i := 126) rfl rfl, tbi_8 (i := 128) rfl rfl, tbs (i := 112) (by decide +kernel) rfl, tbi_1 (i := 16) rfl rfl, tbi_8 (i := 129) rfl rfl, ⟨by decide +kernel, by decide +kernel, by decide +kernel⟩, by decide⟩
theorem vl_X11_559 : VL RX11 559 yX11_isFree cX11_isFree 2 (some .boolean) 1 := ⟨tbi_9 (i := 25) rfl rfl, tbi_9 (i := 27) rfl rfl, tbs (i := 137) (by decide +kernel) rfl, tbi_1 (i := 16) rfl rfl, tbi_9 (i := 28) rfl rfl, ⟨by decide +kernel, by decide +kernel, by decide +kernel⟩, by decide⟩
theorem fl_X11_60 : Cond.fieldLink RX11 60 (TX11 16).1 (TX11 16).2.1 (TX11 16).2.2.1 ∈ tb := tbi_6 (i := 128) rfl rfl
theorem sl_X11_334 : SL RX11 334 yX11_is cX11_is 3 (some .boolean) 3 := ⟨tbi_7 (i := 192) rfl rfl, tbi_7 (i := 193) rfl rfl, tbi_1 (i := 16) rfl rfl, tbi_7 (i := 194) rfl rfl, ⟨by decide +kernel, by decide +kernel, by decide +kernel⟩, by decide⟩
theorem vl_X11_455 : VL RX11 455 yX11_next cX11_next 5 (some .int) 2 := ⟨tbi_8 (i := 154) rfl rfl, tbi_8 (i := 156) rfl rfl, tbs (i := 119) (by decide +kernel) rfl, tbi_1 (i := 16) rfl rfl, tbi_8 (i := 157) rfl rfl, ⟨by decide +kernel, by decide +kernel, by decide +kernel⟩, by decide⟩
theorem vl_X11_476 : VL RX11 476 yX11_heightOf cX11_heightOf 2 (some .int) 1 := ⟨tbi_8 (i := 122) rfl rfl, tbi_8 (i := 124) rfl rfl, tbs (i := 111) (by decide +kernel) rfl, tbi_1 (i := 16) rfl rfl, tbi_8 (i := 125) rfl rfl, ⟨by decide +kernel, by decide +kernel, by decide +kernel⟩, by decide⟩
theorem vl_X11_438 : VL RX11 438 yX11_cells cX11_cells 1 (some .int) 0 := ⟨tbi_8 (i := 93) rfl rfl, tbi_8 (i := 95) rfl rfl, tbs (i := 106) (by decide +kernel) rfl, tbi_1 (i := 16) rfl rfl, tbi_8 (i := 96) rfl rfl, ⟨by decide +kernel, by decide +kernel, by decide +kernel⟩, by decide⟩
theorem fl_X11_203 : Cond.fieldLink RX11 203 (TX11 63).1 (TX11 63).2.1 (TX11 63).2.2.1 ∈ tb := tbi_6 (i := 175) rfl rfl
theorem fl_X11_200 : Cond.fieldLink RX11 200 (TX11 62).1 (TX11 62).2.1 (TX11 62).2.2.1 ∈ tb := tbi_6 (i := 174) rfl rfl
theorem vl_X11_502 : VL RX11 502 yX11_flowsTo cX11_flowsTo 6 (some .int) 2 := ⟨tbi_8 (i := 194) rfl rfl, tbi_8 (i := 196) rfl rfl, tbs (i := 128) (by decide +kernel) rfl, tbi_1 (i := 16) rfl rfl, tbi_8 (i := 197) rfl rfl, ⟨by decide +kernel, by decide +kernel, by decide +kernel⟩, by decide⟩
theorem fl_X11_87 : Cond.fieldLink RX11 87 (TX11 25).1 (TX11 25).2.1 (TX11 25).2.2.1 ∈ tb := tbi_6 (i := 137) rfl rfl
theorem fl_X11_188 : Cond.fieldLink RX11 188 (TX11 58).1 (TX11 58).2.1 (TX11 58).2.2.1 ∈ tb := tbi_6 (i := 170) rfl rfl
theorem fl_X11_191 : Cond.fieldLink RX11 191 (TX11 59).1 (TX11 59).2.1 (TX11 59).2.2.1 ∈ tb := tbi_6 (i := 171) rfl rfl
theorem fl_X11_194 : Cond.fieldLink RX11 194 (TX11 60).1 (TX11 60).2.1 (TX11 60).2.2.1 ∈ tb := tbi_6 (i := 172) rfl rfl
theorem vl_X11_470 : VL RX11 470 yX11_takesOf cX11_takesOf 2 (some .int) 1 := ⟨tbi_8 (i := 170) rfl rfl, tbi_8 (i := 172) rfl rfl, tbs (i := 122) (by decide +kernel) rfl, tbi_1 (i := 16) rfl rfl, tbi_8 (i := 173) rfl rfl, ⟨by decide +kernel, by decide +kernel, by decide +kernel⟩, by decide⟩
theorem vl_X11_473 : VL RX11 473 yX11_opennessOf cX11_opennessOf 8 (some .int) 2 := ⟨tbi_8 (i := 146) rfl rfl, tbi_8 (i := 148) rfl rfl, tbs (i := 117) (by decide +kernel) rfl, tbi_1 (i := 16) rfl rfl, tbi_8 (i := 149) rfl rfl, ⟨by decide +kernel, by decide +kernel, by decide +kernel⟩, by decide⟩
theorem vl_X11_479 : VL RX11 479 yX11_nearHouses cX11_nearHouses 5 (some .int) 1 := ⟨tbi_8 (i := 150) rfl rfl, tbi_8 (i := 152) rfl rfl, tbs (i := 118) (by decide +kernel) rfl, tbi_1 (i := 16) rfl rfl, tbi_8 (i := 153) rfl rfl, ⟨by decide +kernel, by decide +kernel, by decide +kernel⟩, by decide⟩
theorem fl_X11_197 : Cond.fieldLink RX11 197 (TX11 61).1 (TX11 61).2.1 (TX11 61).2.2.1 ∈ tb := tbi_6 (i := 173) rfl rfl
theorem k_X11_482 : Cond.constantLong RX11 482 (1000000) ∈ tb := tbi_8 (i := 216) rfl rfl
theorem k_X11_484 : Cond.constantLong RX11 484 (-1000000) ∈ tb := tbi_8 (i := 217) rfl rfl
theorem sl_X11_486 : SL RX11 486 yX11_held cX11_held 2 (some .long) 1 := ⟨tbi_8 (i := 213) rfl rfl, tbi_8 (i := 214) rfl rfl, tbi_1 (i := 16) rfl rfl, tbi_8 (i := 215) rfl rfl, ⟨by decide +kernel, by decide +kernel, by decide +kernel⟩, by decide⟩
theorem sl_X11_490 : SL RX11 490 yX11_floor cX11_floor 6 (some .long) 2 := ⟨tbi_8 (i := 218) rfl rfl, tbi_8 (i := 219) rfl rfl, tbi_1 (i := 16) rfl rfl, tbi_8 (i := 220) rfl rfl, ⟨by decide +kernel, by decide +kernel, by decide +kernel⟩, by decide⟩
theorem fl_X11_185 : Cond.fieldLink RX11 185 (TX11 57).1 (TX11 57).2.1 (TX11 57).2.2.1 ∈ tb := tbi_6 (i := 169) rfl rfl
theorem vl_X11_494 : VL RX11 494 yX11_part cX11_part 5 (some .long) 2 := ⟨tbi_8 (i := 206) rfl rfl, tbi_8 (i := 208) rfl rfl, tbs (i := 131) (by decide +kernel) rfl, tbi_1 (i := 16) rfl rfl, tbi_8 (i := 209) rfl rfl, ⟨by decide +kernel, by decide +kernel, by decide +kernel⟩, by decide⟩
theorem sl_X11_498 : SL RX11 498 yX11_two cX11_two 5 (some .long) 3 := ⟨tbi_8 (i := 210) rfl rfl, tbi_8 (i := 211) rfl rfl, tbi_1 (i := 16) rfl rfl, tbi_8 (i := 212) rfl rfl, ⟨by decide +kernel, by decide +kernel, by decide +kernel⟩, by decide⟩
theorem fl_X11_212 : Cond.fieldLink RX11 212 (TX11 66).1 (TX11 66).2.1 (TX11 66).2.2.1 ∈ tb := tbi_6 (i := 178) rfl rfl
theorem fl_X11_206 : Cond.fieldLink RX11 206 (TX11 64).1 (TX11 64).2.1 (TX11 64).2.2.1 ∈ tb := tbi_6 (i := 176) rfl rfl
theorem fl_X11_96 : Cond.fieldLink RX11 96 (TX11 28).1 (TX11 28).2.1 (TX11 28).2.2.1 ∈ tb := tbi_6 (i := 140) rfl rfl
theorem fl_X11_99 : Cond.fieldLink RX11 99 (TX11 29).1 (TX11 29).2.1 (TX11 29).2.2.1 ∈ tb := tbi_6 (i := 141) rfl rfl
theorem vl_X11_505 : VL RX11 505 yX11_sumOf cX11_sumOf 7 (some .int) 3 := ⟨tbi_8 (i := 202) rfl rfl, tbi_8 (i := 204) rfl rfl, tbs (i := 130) (by decide +kernel) rfl, tbi_1 (i := 16) rfl rfl, tbi_8 (i := 205) rfl rfl, ⟨by decide +kernel, by decide +kernel, by decide +kernel⟩, by decide⟩
theorem fl_X11_209 : Cond.fieldLink RX11 209 (TX11 65).1 (TX11 65).2.1 (TX11 65).2.2.1 ∈ tb := tbi_6 (i := 177) rfl rfl
theorem fl_X11_102 : Cond.fieldLink RX11 102 (TX11 30).1 (TX11 30).2.1 (TX11 30).2.2.1 ∈ tb := tbi_6 (i := 142) rfl rfl
theorem fl_X11_105 : Cond.fieldLink RX11 105 (TX11 31).1 (TX11 31).2.1 (TX11 31).2.2.1 ∈ tb := tbi_6 (i := 143) rfl rfl
theorem vl_X11_509 : VL RX11 509 yX11_colds cX11_colds 7 none 2 := ⟨tbi_8 (i := 190) rfl rfl, tbi_8 (i := 192) rfl rfl, tbs (i := 127) (by decide +kernel) rfl, tbi_1 (i := 16) rfl rfl, tbi_8 (i := 193) rfl rfl, ⟨by decide +kernel, by decide +kernel, by decide +kernel⟩, by decide⟩
theorem vl_X11_512 : VL RX11 512 yX11_dews cX11_dews 5 none 2 := ⟨tbi_8 (i := 198) rfl rfl, tbi_8 (i := 200) rfl rfl, tbs (i := 129) (by decide +kernel) rfl, tbi_1 (i := 16) rfl rfl, tbi_8 (i := 201) rfl rfl, ⟨by decide +kernel, by decide +kernel, by decide +kernel⟩, by decide⟩
theorem fl_X11_93 : Cond.fieldLink RX11 93 (TX11 27).1 (TX11 27).2.1 (TX11 27).2.2.1 ∈ tb := tbi_6 (i := 139) rfl rfl
theorem vl_X11_521 : VL RX11 521 yX11_goesNight cX11_goesNight 3 none 1 := ⟨tbi_8 (i := 186) rfl rfl, tbi_8 (i := 188) rfl rfl, tbs (i := 126) (by decide +kernel) rfl, tbi_1 (i := 16) rfl rfl, tbi_8 (i := 189) rfl rfl, ⟨by decide +kernel, by decide +kernel, by decide +kernel⟩, by decide⟩
theorem vl_X11_467 : VL RX11 467 yX11_apart cX11_apart 5 (some .int) 2 := ⟨tbi_8 (i := 178) rfl rfl, tbi_8 (i := 180) rfl rfl, tbs (i := 124) (by decide +kernel) rfl, tbi_1 (i := 16) rfl rfl, tbi_8 (i := 181) rfl rfl, ⟨by decide +kernel, by decide +kernel, by decide +kernel⟩, by decide⟩
theorem vl_X11_515 : VL RX11 515 yX11_cisternOf cX11_cisternOf 6 (some .int) 2 := ⟨tbi_8 (i := 174) rfl rfl, tbi_8 (i := 176) rfl rfl, tbs (i := 123) (by decide +kernel) rfl, tbi_1 (i := 16) rfl rfl, tbi_8 (i := 177) rfl rfl, ⟨by decide +kernel, by decide +kernel, by decide +kernel⟩, by decide⟩
theorem vl_X11_518 : VL RX11 518 yX11_dawnOf cX11_dawnOf 2 (some .int) 1 := ⟨tbi_8 (i := 221) rfl rfl, tbi_8 (i := 223) rfl rfl, tbs (i := 132) (by decide +kernel) rfl, tbi_1 (i := 16) rfl rfl, tbi_8 (i := 224) rfl rfl, ⟨by decide +kernel, by decide +kernel, by decide +kernel⟩, by decide⟩
theorem vl_X11_544 : VL RX11 544 yX11_nightAsTold cX11_nightAsTold 3 none 1 := ⟨tbi_8 (i := 182) rfl rfl, tbi_8 (i := 184) rfl rfl, tbs (i := 125) (by decide +kernel) rfl, tbi_1 (i := 16) rfl rfl, tbi_8 (i := 185) rfl rfl, ⟨by decide +kernel, by decide +kernel, by decide +kernel⟩, by decide⟩
theorem k_X11_585 : Cond.constant RX11 585 (1000000) ∈ tb := tbi_9 (i := 81) rfl rfl
theorem vl_X11_550 : VL RX11 550 yX11_comes cX11_comes 5 (some .int) 2 := ⟨tbi_8 (i := 233) rfl rfl, tbi_8 (i := 235) rfl rfl, tbs (i := 134) (by decide +kernel) rfl, tbi_1 (i := 16) rfl rfl, tbi_8 (i := 236) rfl rfl, ⟨by decide +kernel, by decide +kernel, by decide +kernel⟩, by decide⟩
theorem fl_X11_221 : Cond.fieldLink RX11 221 (TX11 69).1 (TX11 69).2.1 (TX11 69).2.2.1 ∈ tb := tbi_6 (i := 181) rfl rfl
theorem fl_X11_224 : Cond.fieldLink RX11 224 (TX11 70).1 (TX11 70).2.1 (TX11 70).2.2.1 ∈ tb := tbi_6 (i := 182) rfl rfl
theorem fl_X11_227 : Cond.fieldLink RX11 227 (TX11 71).1 (TX11 71).2.1 (TX11 71).2.2.1 ∈ tb := tbi_6 (i := 183) rfl rfl
theorem vl_X11_524 : VL RX11 524 yX11_cloths cX11_cloths 3 (some .int) 0 := ⟨tbi_8 (i := 97) rfl rfl, tbi_8 (i := 99) rfl rfl, tbs (i := 107) (by decide +kernel) rfl, tbi_1 (i := 16) rfl rfl, tbi_8 (i := 100) rfl rfl, ⟨by decide +kernel, by decide +kernel, by decide +kernel⟩, by decide⟩
theorem vl_X11_527 : VL RX11 527 yX11_cloth cX11_cloth 4 (some .int) 1 := ⟨tbi_8 (i := 109) rfl rfl, tbi_8 (i := 111) rfl rfl, tbs (i := 109) (by decide +kernel) rfl, tbi_1 (i := 16) rfl rfl, tbi_8 (i := 112) rfl rfl, ⟨by decide +kernel, by decide +kernel, by decide +kernel⟩, by decide⟩
theorem vl_X11_448 : VL RX11 448 yX11_copies cX11_copies 4 none 2 := ⟨tbi_8 (i := 85) rfl rfl, tbi_8 (i := 87) rfl rfl, tbs (i := 105) (by decide +kernel) rfl, tbi_1 (i := 16) rfl rfl, tbi_8 (i := 88) rfl rfl, ⟨by decide +kernel, by decide +kernel, by decide +kernel⟩, by decide⟩
theorem vl_X11_586 : VL RX11 586 yX11_canHang cX11_canHang 3 (some .boolean) 2 := ⟨tbi_9 (i := 82) rfl rfl, tbi_9 (i := 84) rfl rfl, tbs (i := 143) (by decide +kernel) rfl, tbi_1 (i := 16) rfl rfl, tbi_9 (i := 85) rfl rfl, ⟨by decide +kernel, by decide +kernel, by decide +kernel⟩, by decide⟩
theorem vl_X11_589 : VL RX11 589 yX11_compares cX11_compares 8 none 2 := ⟨tbi_9 (i := 86) rfl rfl, tbi_9 (i := 88) rfl rfl, tbs (i := 144) (by decide +kernel) rfl, tbi_1 (i := 16) rfl rfl, tbi_9 (i := 89) rfl rfl, ⟨by decide +kernel, by decide +kernel, by decide +kernel⟩, by decide⟩
theorem fl_X11_179 : Cond.fieldLink RX11 179 (TX11 55).1 (TX11 55).2.1 (TX11 55).2.2.1 ∈ tb := tbi_6 (i := 167) rfl rfl
theorem fl_X11_230 : Cond.fieldLink RX11 230 (TX11 72).1 (TX11 72).2.1 (TX11 72).2.2.1 ∈ tb := tbi_6 (i := 184) rfl rfl
theorem fl_X11_63 : Cond.fieldLink RX11 63 (TX11 17).1 (TX11 17).2.1 (TX11 17).2.2.1 ∈ tb := tbi_6 (i := 129) rfl rfl
theorem fl_X11_90 : Cond.fieldLink RX11 90 (TX11 26).1 (TX11 26).2.1 (TX11 26).2.2.1 ∈ tb := tbi_6 (i := 138) rfl rfl
theorem vl_X11_547 : VL RX11 547 yX11_isCistern cX11_isCistern 2 (some .boolean) 1 := ⟨tbi_8 (i := 229) rfl rfl, tbi_8 (i := 231) rfl rfl, tbs (i := 133) (by decide +kernel) rfl, tbi_1 (i := 16) rfl rfl, tbi_8 (i := 232) rfl rfl, ⟨by decide +kernel, by decide +kernel, by decide +kernel⟩, by decide⟩
theorem vl_X11_595 : VL RX11 595 yX11_without cX11_without 4 (some .int) 2 := ⟨tbi_9 (i := 101) rfl rfl, tbi_9 (i := 103) rfl rfl, tbs (i := 145) (by decide +kernel) rfl, tbi_1 (i := 16) rfl rfl, tbi_9 (i := 104) rfl rfl, ⟨by decide +kernel, by decide +kernel, by decide +kernel⟩, by decide⟩
theorem fl_X11_36 : Cond.fieldLink RX11 36 (TX11 8).1 (TX11 8).2.1 (TX11 8).2.2.1 ∈ tb := tbi_6 (i := 120) rfl rfl
theorem fl_X11_39 : Cond.fieldLink RX11 39 (TX11 9).1 (TX11 9).2.1 (TX11 9).2.2.1 ∈ tb := tbi_6 (i := 121) rfl rfl
theorem vl_X11_532 : VL RX11 532 yX11_isCell cX11_isCell 2 (some .boolean) 1 := ⟨tbi_8 (i := 118) rfl rfl, tbi_8 (i := 120) rfl rfl, tbs (i := 110) (by decide +kernel) rfl, tbi_1 (i := 16) rfl rfl, tbi_8 (i := 121) rfl rfl, ⟨by decide +kernel, by decide +kernel, by decide +kernel⟩, by decide⟩
theorem fl_X11_236 : Cond.fieldLink RX11 236 (TX11 74).1 (TX11 74).2.1 (TX11 74).2.2.1 ∈ tb := tbi_6 (i := 186) rfl rfl
theorem vl_X11_602 : VL RX11 602 yX11_isEdge cX11_isEdge 4 (some .boolean) 1 := ⟨tbi_9 (i := 130) rfl rfl, tbi_9 (i := 132) rfl rfl, tbs (i := 149) (by decide +kernel) rfl, tbi_1 (i := 16) rfl rfl, tbi_9 (i := 133) rfl rfl, ⟨by decide +kernel, by decide +kernel, by decide +kernel⟩, by decide⟩
theorem fl_X11_239 : Cond.fieldLink RX11 239 (TX11 75).1 (TX11 75).2.1 (TX11 75).2.2.1 ∈ tb := tbi_6 (i := 187) rfl rfl
theorem vl_X11_538 : VL RX11 538 yX11_sunOf cX11_sunOf 4 (some .int) 1 := ⟨tbi_8 (i := 158) rfl rfl, tbi_8 (i := 160) rfl rfl, tbs (i := 120) (by decide +kernel) rfl, tbi_1 (i := 16) rfl rfl, tbi_8 (i := 161) rfl rfl, ⟨by decide +kernel, by decide +kernel, by decide +kernel⟩, by decide⟩
theorem vl_X11_256 : VL RX11 256 yX11_blame cX11_blame 3 none 2 := ⟨tbi_7 (i := 176) rfl rfl, tbi_7 (i := 178) rfl rfl, tbs (i := 73) (by decide +kernel) rfl, tbi_1 (i := 16) rfl rfl, tbi_7 (i := 179) rfl rfl, ⟨by decide +kernel, by decide +kernel, by decide +kernel⟩, by decide⟩
theorem vl_X11_271 : VL RX11 271 yX11_lex cX11_lex 1 none 0 := ⟨tbi_7 (i := 172) rfl rfl, tbi_7 (i := 174) rfl rfl, tbs (i := 72) (by decide +kernel) rfl, tbi_1 (i := 16) rfl rfl, tbi_7 (i := 175) rfl rfl, ⟨by decide +kernel, by decide +kernel, by decide +kernel⟩, by decide⟩
theorem vl_X11_354 : VL RX11 354 yX11_isWord cX11_isWord 3 (some .boolean) 1 := ⟨tbi_7 (i := 180) rfl rfl, tbi_7 (i := 182) rfl rfl, tbs (i := 74) (by decide +kernel) rfl, tbi_1 (i := 16) rfl rfl, tbi_7 (i := 183) rfl rfl, ⟨by decide +kernel, by decide +kernel, by decide +kernel⟩, by decide⟩
theorem vl_X11_277 : VL RX11 277 yX11_ahead cX11_ahead 6 none 0 := ⟨tbi_7 (i := 127) rfl rfl, tbi_7 (i := 129) rfl rfl, tbs (i := 69) (by decide +kernel) rfl, tbi_1 (i := 16) rfl rfl, tbi_7 (i := 130) rfl rfl, ⟨by decide +kernel, by decide +kernel, by decide +kernel⟩, by decide⟩
theorem vl_X11_338 : VL RX11 338 yX11_looked cX11_looked 3 (some .int) 2 := ⟨tbi_7 (i := 188) rfl rfl, tbi_7 (i := 190) rfl rfl, tbs (i := 76) (by decide +kernel) rfl, tbi_1 (i := 16) rfl rfl, tbi_7 (i := 191) rfl rfl, ⟨by decide +kernel, by decide +kernel, by decide +kernel⟩, by decide⟩
theorem vl_X11_372 : VL RX11 372 yX11_must_ cX11_must_ 3 none 1 := ⟨tbi_7 (i := 168) rfl rfl, tbi_7 (i := 170) rfl rfl, tbs (i := 71) (by decide +kernel) rfl, tbi_1 (i := 16) rfl rfl, tbi_7 (i := 171) rfl rfl, ⟨by decide +kernel, by decide +kernel, by decide +kernel⟩, by decide⟩
theorem vl_X11_376 : VL RX11 376 yX11_number cX11_number 4 (some .int) 2 := ⟨tbi_7 (i := 184) rfl rfl, tbi_7 (i := 186) rfl rfl, tbs (i := 75) (by decide +kernel) rfl, tbi_1 (i := 16) rfl rfl, tbi_7 (i := 187) rfl rfl, ⟨by decide +kernel, by decide +kernel, by decide +kernel⟩, by decide⟩
theorem vl_X11_379 : VL RX11 379 yX11_isFreeTold cX11_isFreeTold 3 (some .boolean) 1 := ⟨tbi_7 (i := 223) rfl rfl, tbi_7 (i := 225) rfl rfl, tbs (i := 84) (by decide +kernel) rfl, tbi_1 (i := 16) rfl rfl, tbi_7 (i := 226) rfl rfl, ⟨by decide +kernel, by decide +kernel, by decide +kernel⟩, by decide⟩
theorem fl_X11_123 : Cond.fieldLink RX11 123 (TX11 37).1 (TX11 37).2.1 (TX11 37).2.2.1 ∈ tb := tbi_6 (i := 149) rfl rfl
theorem fl_X11_127 : Cond.fieldLink RX11 127 (TX11 38).1 (TX11 38).2.1 (TX11 38).2.2.1 ∈ tb := tbi_6 (i := 150) rfl rfl
theorem vl_X11_369 : VL RX11 369 yX11_isNamed cX11_isNamed 4 (some .boolean) 1 := ⟨tbi_8 (i := 3) rfl rfl, tbi_8 (i := 5) rfl rfl, tbs (i := 89) (by decide +kernel) rfl, tbi_1 (i := 16) rfl rfl, tbi_8 (i := 6) rfl rfl, ⟨by decide +kernel, by decide +kernel, by decide +kernel⟩, by decide⟩
theorem vl_X11_382 : VL RX11 382 yX11_counts cX11_counts 2 (some .boolean) 1 := ⟨tbi_7 (i := 215) rfl rfl, tbi_7 (i := 217) rfl rfl, tbs (i := 82) (by decide +kernel) rfl, tbi_1 (i := 16) rfl rfl, tbi_7 (i := 218) rfl rfl, ⟨by decide +kernel, by decide +kernel, by decide +kernel⟩, by decide⟩
theorem vl_X11_390 : VL RX11 390 yX11_fresh cX11_fresh 3 (some .long) 0 := ⟨tbi_7 (i := 239) rfl rfl, tbi_8 (i := 1) rfl rfl, tbs (i := 88) (by decide +kernel) rfl, tbi_1 (i := 16) rfl rfl, tbi_8 (i := 2) rfl rfl, ⟨by decide +kernel, by decide +kernel, by decide +kernel⟩, by decide⟩
theorem vl_X11_386 : VL RX11 386 yX11_cellAt cX11_cellAt 4 (some .int) 1 := ⟨tbi_7 (i := 219) rfl rfl, tbi_7 (i := 221) rfl rfl, tbs (i := 83) (by decide +kernel) rfl, tbi_1 (i := 16) rfl rfl, tbi_7 (i := 222) rfl rfl, ⟨by decide +kernel, by decide +kernel, by decide +kernel⟩, by decide⟩
theorem vl_X11_553 : VL RX11 553 yX11_isIsland cX11_isIsland 1 (some .boolean) 0 := ⟨tbi_9 (i := 13) rfl rfl, tbi_9 (i := 15) rfl rfl, tbs (i := 135) (by decide +kernel) rfl, tbi_1 (i := 16) rfl rfl, tbi_9 (i := 16) rfl rfl, ⟨by decide +kernel, by decide +kernel, by decide +kernel⟩, by decide⟩
theorem vl_X11_617 : VL RX11 617 yX11_twoBytes cX11_twoBytes 2 (some .int) 1 := ⟨tbi_9 (i := 166) rfl rfl, tbi_9 (i := 168) rfl rfl, tbs (i := 153) (by decide +kernel) rfl, tbi_1 (i := 16) rfl rfl, tbi_9 (i := 169) rfl rfl, ⟨by decide +kernel, by decide +kernel, by decide +kernel⟩, by decide⟩
theorem vl_X11_620 : VL RX11 620 yX11_canBe cX11_canBe 3 (some .boolean) 0 := ⟨tbi_9 (i := 170) rfl rfl, tbi_9 (i := 172) rfl rfl, tbs (i := 154) (by decide +kernel) rfl, tbi_1 (i := 16) rfl rfl, tbi_9 (i := 173) rfl rfl, ⟨by decide +kernel, by decide +kernel, by decide +kernel⟩, by decide⟩
theorem vl_X11_599 : VL RX11 599 yX11_isStep cX11_isStep 3 (some .boolean) 2 := ⟨tbi_9 (i := 122) rfl rfl, tbi_9 (i := 124) rfl rfl, tbs (i := 147) (by decide +kernel) rfl, tbi_1 (i := 16) rfl rfl, tbi_9 (i := 125) rfl rfl, ⟨by decide +kernel, by decide +kernel, by decide +kernel⟩, by decide⟩
theorem vl_X11_541 : VL RX11 541 yX11_isThing cX11_isThing 2 (some .boolean) 1 := ⟨tbi_8 (i := 166) rfl rfl, tbi_8 (i := 168) rfl rfl, tbs (i := 121) (by decide +kernel) rfl, tbi_1 (i := 16) rfl rfl, tbi_8 (i := 169) rfl rfl, ⟨by decide +kernel, by decide +kernel, by decide +kernel⟩, by decide⟩
theorem fl_X11_136 : Cond.fieldLink RX11 136 (TX11 41).1 (TX11 41).2.1 (TX11 41).2.2.1 ∈ tb := tbi_6 (i := 153) rfl rfl
theorem fl_X11_145 : Cond.fieldLink RX11 145 (TX11 44).1 (TX11 44).2.1 (TX11 44).2.2.1 ∈ tb := tbi_6 (i := 156) rfl rfl
theorem fl_X11_142 : Cond.fieldLink RX11 142 (TX11 43).1 (TX11 43).2.1 (TX11 43).2.2.1 ∈ tb := tbi_6 (i := 155) rfl rfl
theorem fl_X11_154 : Cond.fieldLink RX11 154 (TX11 47).1 (TX11 47).2.1 (TX11 47).2.2.1 ∈ tb := tbi_6 (i := 159) rfl rfl
theorem fl_X11_148 : Cond.fieldLink RX11 148 (TX11 45).1 (TX11 45).2.1 (TX11 45).2.2.1 ∈ tb := tbi_6 (i := 157) rfl rfl
theorem vl_X11_348 : VL RX11 348 yX11_pushes cX11_pushes 2 none 1 := ⟨tbi_8 (i := 26) rfl rfl, tbi_8 (i := 28) rfl rfl, tbs (i := 94) (by decide +kernel) rfl, tbi_1 (i := 16) rfl rfl, tbi_8 (i := 29) rfl rfl, ⟨by decide +kernel, by decide +kernel, by decide +kernel⟩, by decide⟩
theorem vl_X11_274 : VL RX11 274 yX11_isSign cX11_isSign 2 (some .boolean) 1 := ⟨tbi_7 (i := 199) rfl rfl, tbi_7 (i := 201) rfl rfl, tbs (i := 78) (by decide +kernel) rfl, tbi_1 (i := 16) rfl rfl, tbi_7 (i := 202) rfl rfl, ⟨by decide +kernel, by decide +kernel, by decide +kernel⟩, by decide⟩
theorem vl_X11_351 : VL RX11 351 yX11_opens cX11_opens 2 none 1 := ⟨tbi_8 (i := 34) rfl rfl, tbi_8 (i := 36) rfl rfl, tbs (i := 96) (by decide +kernel) rfl, tbi_1 (i := 16) rfl rfl, tbi_8 (i := 37) rfl rfl, ⟨by decide +kernel, by decide +kernel, by decide +kernel⟩, by decide⟩
theorem fl_X11_139 : Cond.fieldLink RX11 139 (TX11 42).1 (TX11 42).2.1 (TX11 42).2.2.1 ∈ tb := tbi_6 (i := 154) rfl rfl
theorem vl_X11_345 : VL RX11 345 yX11_add cX11_add 3 none 2 := ⟨tbi_8 (i := 38) rfl rfl, tbi_8 (i := 40) rfl rfl, tbs (i := 97) (by decide +kernel) rfl, tbi_1 (i := 16) rfl rfl, tbi_8 (i := 41) rfl rfl, ⟨by decide +kernel, by decide +kernel, by decide +kernel⟩, by decide⟩
theorem fl_X11_151 : Cond.fieldLink RX11 151 (TX11 46).1 (TX11 46).2.1 (TX11 46).2.2.1 ∈ tb := tbi_6 (i := 158) rfl rfl
theorem sl_X11_342 : SL RX11 342 yX11_rank cX11_rank 1 (some .int) 1 := ⟨tbi_8 (i := 50) rfl rfl, tbi_8 (i := 51) rfl rfl, tbi_1 (i := 16) rfl rfl, tbi_8 (i := 52) rfl rfl, ⟨by decide +kernel, by decide +kernel, by decide +kernel⟩, by decide⟩
theorem vl_X11_357 : VL RX11 357 yX11_joins cX11_joins 2 none 1 := ⟨tbi_8 (i := 46) rfl rfl, tbi_8 (i := 48) rfl rfl, tbs (i := 99) (by decide +kernel) rfl, tbi_1 (i := 16) rfl rfl, tbi_8 (i := 49) rfl rfl, ⟨by decide +kernel, by decide +kernel, by decide +kernel⟩, by decide⟩
theorem vl_X11_360 : VL RX11 360 yX11_holdsBack cX11_holdsBack 2 none 1 := ⟨tbi_8 (i := 53) rfl rfl, tbi_8 (i := 55) rfl rfl, tbs (i := 100) (by decide +kernel) rfl, tbi_1 (i := 16) rfl rfl, tbi_8 (i := 56) rfl rfl, ⟨by decide +kernel, by decide +kernel, by decide +kernel⟩, by decide⟩
theorem fl_X11_157 : Cond.fieldLink RX11 157 (TX11 48).1 (TX11 48).2.1 (TX11 48).2.2.1 ∈ tb := tbi_6 (i := 160) rfl rfl
theorem vl_X11_366 : VL RX11 366 yX11_goesOn cX11_goesOn 3 (some .boolean) 0 := ⟨tbi_8 (i := 42) rfl rfl, tbi_8 (i := 44) rfl rfl, tbs (i := 98) (by decide +kernel) rfl, tbi_1 (i := 16) rfl rfl, tbi_8 (i := 45) rfl rfl, ⟨by decide +kernel, by decide +kernel, by decide +kernel⟩, by decide⟩
theorem vl_X11_363 : VL RX11 363 yX11_operand cX11_operand 2 (some .boolean) 0 := ⟨tbi_8 (i := 30) rfl rfl, tbi_8 (i := 32) rfl rfl, tbs (i := 95) (by decide +kernel) rfl, tbi_1 (i := 16) rfl rfl, tbi_8 (i := 33) rfl rfl, ⟨by decide +kernel, by decide +kernel, by decide +kernel⟩, by decide⟩
theorem vl_X11_397 : VL RX11 397 yX11_reads cX11_reads 2 none 0 := ⟨tbi_8 (i := 22) rfl rfl, tbi_8 (i := 24) rfl rfl, tbs (i := 93) (by decide +kernel) rfl, tbi_1 (i := 16) rfl rfl, tbi_8 (i := 25) rfl rfl, ⟨by decide +kernel, by decide +kernel, by decide +kernel⟩, by decide⟩
theorem k_X11_598 : Cond.constant RX11 598 (-1000000000) ∈ tb := tbi_9 (i := 105) rfl rfl
theorem k_X11_565 : Cond.constantLong RX11 565 (1103515245) ∈ tb := tbi_9 (i := 53) rfl rfl
theorem fl_X11_182 : Cond.fieldLink RX11 182 (TX11 56).1 (TX11 56).2.1 (TX11 56).2.2.1 ∈ tb := tbi_6 (i := 168) rfl rfl
theorem k_X11_567 : Cond.constantLong RX11 567 (12345) ∈ tb := tbi_9 (i := 54) rfl rfl
theorem k_X11_569 : Cond.constantLong RX11 569 (2147483648) ∈ tb := tbi_9 (i := 55) rfl rfl
theorem k_X11_571 : Cond.constantLong RX11 571 (64) ∈ tb := tbi_9 (i := 56) rfl rfl
theorem fl_X11_161 : Cond.fieldLink RX11 161 (TX11 49).1 (TX11 49).2.1 (TX11 49).2.2.1 ∈ tb := tbi_6 (i := 161) rfl rfl
theorem vl_X11_248 : VL RX11 248 yX11_refuses cX11_refuses 2 (some .int) 1 := ⟨tbi_7 (i := 111) rfl rfl, tbi_7 (i := 113) rfl rfl, tbs (i := 67) (by decide +kernel) rfl, tbi_1 (i := 16) rfl rfl, tbi_7 (i := 114) rfl rfl, ⟨by decide +kernel, by decide +kernel, by decide +kernel⟩, by decide⟩
theorem fl_X11_13 : Cond.fieldLink RX11 13 (TX11 1).1 (TX11 1).2.1 (TX11 1).2.2.1 ∈ tb := tbi_6 (i := 113) rfl rfl
theorem fl_X11_45 : Cond.fieldLink RX11 45 (TX11 11).1 (TX11 11).2.1 (TX11 11).2.2.1 ∈ tb := tbi_6 (i := 123) rfl rfl
theorem fl_X11_42 : Cond.fieldLink RX11 42 (TX11 10).1 (TX11 10).2.1 (TX11 10).2.2.1 ∈ tb := tbi_6 (i := 122) rfl rfl
theorem vl_X11_252 : VL RX11 252 yX11_put cX11_put 3 none 1 := ⟨tbi_7 (i := 115) rfl rfl, tbi_7 (i := 117) rfl rfl, tbs (i := 68) (by decide +kernel) rfl, tbi_1 (i := 16) rfl rfl, tbi_7 (i := 118) rfl rfl, ⟨by decide +kernel, by decide +kernel, by decide +kernel⟩, by decide⟩
theorem fl_X11_108 : Cond.fieldLink RX11 108 (TX11 32).1 (TX11 32).2.1 (TX11 32).2.2.1 ∈ tb := tbi_6 (i := 144) rfl rfl
theorem vl_X11_605 : VL RX11 605 yX11_canBegin cX11_canBegin 2 (some .boolean) 1 := ⟨tbi_9 (i := 126) rfl rfl, tbi_9 (i := 128) rfl rfl, tbs (i := 148) (by decide +kernel) rfl, tbi_1 (i := 16) rfl rfl, tbi_9 (i := 129) rfl rfl, ⟨by decide +kernel, by decide +kernel, by decide +kernel⟩, by decide⟩
theorem fl_X11_233 : Cond.fieldLink RX11 233 (TX11 73).1 (TX11 73).2.1 (TX11 73).2.2.1 ∈ tb := tbi_6 (i := 185) rfl rfl
theorem vl_X11_427 : VL RX11 427 yX11_must cX11_must 2 none 1 := ⟨tbi_7 (i := 203) rfl rfl, tbi_7 (i := 205) rfl rfl, tbs (i := 79) (by decide +kernel) rfl, tbi_1 (i := 16) rfl rfl, tbi_7 (i := 206) rfl rfl, ⟨by decide +kernel, by decide +kernel, by decide +kernel⟩, by decide⟩
theorem fl_X11_215 : Cond.fieldLink RX11 215 (TX11 67).1 (TX11 67).2.1 (TX11 67).2.2.1 ∈ tb := tbi_6 (i := 179) rfl rfl
theorem fl_X11_114 : Cond.fieldLink RX11 114 (TX11 34).1 (TX11 34).2.1 (TX11 34).2.2.1 ∈ tb := tbi_6 (i := 146) rfl rfl
theorem fl_X11_176 : Cond.fieldLink RX11 176 (TX11 54).1 (TX11 54).2.1 (TX11 54).2.2.1 ∈ tb := tbi_6 (i := 166) rfl rfl
theorem vl_X11_445 : VL RX11 445 yX11_ring cX11_ring 2 (some .int) 1 := ⟨tbi_8 (i := 81) rfl rfl, tbi_8 (i := 83) rfl rfl, tbs (i := 104) (by decide +kernel) rfl, tbi_1 (i := 16) rfl rfl, tbi_8 (i := 84) rfl rfl, ⟨by decide +kernel, by decide +kernel, by decide +kernel⟩, by decide⟩
theorem vl_X11_562 : VL RX11 562 yX11_keeps cX11_keeps 1 none 0 := ⟨tbi_9 (i := 29) rfl rfl, tbi_9 (i := 31) rfl rfl, tbs (i := 138) (by decide +kernel) rfl, tbi_1 (i := 16) rfl rfl, tbi_9 (i := 32) rfl rfl, ⟨by decide +kernel, by decide +kernel, by decide +kernel⟩, by decide⟩
theorem fl_X11_72 : Cond.fieldLink RX11 72 (TX11 20).1 (TX11 20).2.1 (TX11 20).2.2.1 ∈ tb := tbi_6 (i := 132) rfl rfl
theorem fl_X11_111 : Cond.fieldLink RX11 111 (TX11 33).1 (TX11 33).2.1 (TX11 33).2.2.1 ∈ tb := tbi_6 (i := 145) rfl rfl
theorem fl_X11_242 : Cond.fieldLink RX11 242 (TX11 76).1 (TX11 76).2.1 (TX11 76).2.2.1 ∈ tb := tbi_6 (i := 188) rfl rfl
theorem fl_X11_245 : Cond.fieldLink RX11 245 (TX11 77).1 (TX11 77).2.1 (TX11 77).2.2.1 ∈ tb := tbi_6 (i := 189) rfl rfl
theorem vl_X11_614 : VL RX11 614 yX11_writes cX11_writes 2 none 1 := ⟨tbi_9 (i := 150) rfl rfl, tbi_9 (i := 152) rfl rfl, tbs (i := 151) (by decide +kernel) rfl, tbi_1 (i := 16) rfl rfl, tbi_9 (i := 153) rfl rfl, ⟨by decide +kernel, by decide +kernel, by decide +kernel⟩, by decide⟩
theorem fl_X11_69 : Cond.fieldLink RX11 69 (TX11 19).1 (TX11 19).2.1 (TX11 19).2.2.1 ∈ tb := tbi_6 (i := 131) rfl rfl
theorem sl_X11_394 : SL RX11 394 yX11_skyOf cX11_skyOf 1 (some .int) 1 := ⟨tbi_8 (i := 15) rfl rfl, tbi_8 (i := 16) rfl rfl, tbi_1 (i := 16) rfl rfl, tbi_8 (i := 17) rfl rfl, ⟨by decide +kernel, by decide +kernel, by decide +kernel⟩, by decide⟩
theorem vl_X11_424 : VL RX11 424 yX11_telling cX11_telling 3 none 1 := ⟨tbi_8 (i := 61) rfl rfl, tbi_8 (i := 63) rfl rfl, tbs (i := 102) (by decide +kernel) rfl, tbi_1 (i := 16) rfl rfl, tbi_8 (i := 64) rfl rfl, ⟨by decide +kernel, by decide +kernel, by decide +kernel⟩, by decide⟩
theorem vl_X11_421 : VL RX11 421 yX11_drying cX11_drying 1 none 0 := ⟨tbi_8 (i := 57) rfl rfl, tbi_8 (i := 59) rfl rfl, tbs (i := 101) (by decide +kernel) rfl, tbi_1 (i := 16) rfl rfl, tbi_8 (i := 60) rfl rfl, ⟨by decide +kernel, by decide +kernel, by decide +kernel⟩, by decide⟩
theorem vl_X11_418 : VL RX11 418 yX11_dewing cX11_dewing 1 none 0 := ⟨tbi_8 (i := 18) rfl rfl, tbi_8 (i := 20) rfl rfl, tbs (i := 92) (by decide +kernel) rfl, tbi_1 (i := 16) rfl rfl, tbi_8 (i := 21) rfl rfl, ⟨by decide +kernel, by decide +kernel, by decide +kernel⟩, by decide⟩
theorem vl_X11_415 : VL RX11 415 yX11_skying cX11_skying 3 none 0 := ⟨tbi_8 (i := 11) rfl rfl, tbi_8 (i := 13) rfl rfl, tbs (i := 91) (by decide +kernel) rfl, tbi_1 (i := 16) rfl rfl, tbi_8 (i := 14) rfl rfl, ⟨by decide +kernel, by decide +kernel, by decide +kernel⟩, by decide⟩
theorem vl_X11_412 : VL RX11 412 yX11_thinging cX11_thinging 3 none 1 := ⟨tbi_8 (i := 7) rfl rfl, tbi_8 (i := 9) rfl rfl, tbs (i := 90) (by decide +kernel) rfl, tbi_1 (i := 16) rfl rfl, tbi_8 (i := 10) rfl rfl, ⟨by decide +kernel, by decide +kernel, by decide +kernel⟩, by decide⟩
theorem vl_X11_409 : VL RX11 409 yX11_cisterning cX11_cisterning 2 none 0 := ⟨tbi_7 (i := 235) rfl rfl, tbi_7 (i := 237) rfl rfl, tbs (i := 87) (by decide +kernel) rfl, tbi_1 (i := 16) rfl rfl, tbi_7 (i := 238) rfl rfl, ⟨by decide +kernel, by decide +kernel, by decide +kernel⟩, by decide⟩
theorem vl_X11_406 : VL RX11 406 yX11_housing cX11_housing 2 none 0 := ⟨tbi_7 (i := 231) rfl rfl, tbi_7 (i := 233) rfl rfl, tbs (i := 86) (by decide +kernel) rfl, tbi_1 (i := 16) rfl rfl, tbi_7 (i := 234) rfl rfl, ⟨by decide +kernel, by decide +kernel, by decide +kernel⟩, by decide⟩
theorem vl_X11_403 : VL RX11 403 yX11_walling cX11_walling 2 none 0 := ⟨tbi_7 (i := 227) rfl rfl, tbi_7 (i := 229) rfl rfl, tbs (i := 85) (by decide +kernel) rfl, tbi_1 (i := 16) rfl rfl, tbi_7 (i := 230) rfl rfl, ⟨by decide +kernel, by decide +kernel, by decide +kernel⟩, by decide⟩
theorem vl_X11_400 : VL RX11 400 yX11_heighten cX11_heighten 3 none 0 := ⟨tbi_7 (i := 211) rfl rfl, tbi_7 (i := 213) rfl rfl, tbs (i := 81) (by decide +kernel) rfl, tbi_1 (i := 16) rfl rfl, tbi_7 (i := 214) rfl rfl, ⟨by decide +kernel, by decide +kernel, by decide +kernel⟩, by decide⟩
theorem vl_X11_429 : VL RX11 429 yX11_finishes cX11_finishes 3 none 1 := ⟨tbi_7 (i := 195) rfl rfl, tbi_7 (i := 197) rfl rfl, tbs (i := 77) (by decide +kernel) rfl, tbi_1 (i := 16) rfl rfl, tbi_7 (i := 198) rfl rfl, ⟨by decide +kernel, by decide +kernel, by decide +kernel⟩, by decide⟩
theorem vl_X11_432 : VL RX11 432 yX11_statement cX11_statement 1 none 0 := ⟨tbi_7 (i := 207) rfl rfl, tbi_7 (i := 209) rfl rfl, tbs (i := 80) (by decide +kernel) rfl, tbi_1 (i := 16) rfl rfl, tbi_7 (i := 210) rfl rfl, ⟨by decide +kernel, by decide +kernel, by decide +kernel⟩, by decide⟩
theorem vl_X11_435 : VL RX11 435 yX11_begin cX11_begin 2 none 0 := ⟨tbi_8 (i := 65) rfl rfl, tbi_8 (i := 67) rfl rfl, tbs (i := 103) (by decide +kernel) rfl, tbi_1 (i := 16) rfl rfl, tbi_8 (i := 68) rfl rfl, ⟨by decide +kernel, by decide +kernel, by decide +kernel⟩, by decide⟩
theorem k_X11_530 : Cond.constantLong RX11 530 (255) ∈ tb := tbi_8 (i := 113) rfl rfl
theorem sl_X11_592 : SL RX11 592 yX11_bits cX11_bits 3 (some .int) 1 := ⟨tbi_9 (i := 94) rfl rfl, tbi_9 (i := 95) rfl rfl, tbi_1 (i := 16) rfl rfl, tbi_9 (i := 96) rfl rfl, ⟨by decide +kernel, by decide +kernel, by decide +kernel⟩, by decide⟩
theorem vl_X11_573 : VL RX11 573 yX11_fills cX11_fills 4 (some .int) 0 := ⟨tbi_9 (i := 41) rfl rfl, tbi_9 (i := 43) rfl rfl, tbs (i := 139) (by decide +kernel) rfl, tbi_1 (i := 16) rfl rfl, tbi_9 (i := 44) rfl rfl, ⟨by decide +kernel, by decide +kernel, by decide +kernel⟩, by decide⟩
theorem vl_X11_576 : VL RX11 576 yX11_draw cX11_draw 2 (some .int) 1 := ⟨tbi_9 (i := 49) rfl rfl, tbi_9 (i := 51) rfl rfl, tbs (i := 140) (by decide +kernel) rfl, tbi_1 (i := 16) rfl rfl, tbi_9 (i := 52) rfl rfl, ⟨by decide +kernel, by decide +kernel, by decide +kernel⟩, by decide⟩
theorem vl_X11_623 : VL RX11 623 yX11_comesOn cX11_comesOn 6 (some .boolean) 1 := ⟨tbi_9 (i := 162) rfl rfl, tbi_9 (i := 164) rfl rfl, tbs (i := 152) (by decide +kernel) rfl, tbi_1 (i := 16) rfl rfl, tbi_9 (i := 165) rfl rfl, ⟨by decide +kernel, by decide +kernel, by decide +kernel⟩, by decide⟩
theorem vl_X11_579 : VL RX11 579 yX11_gotBy cX11_gotBy 7 (some .int) 1 := ⟨tbi_9 (i := 65) rfl rfl, tbi_9 (i := 67) rfl rfl, tbs (i := 141) (by decide +kernel) rfl, tbi_1 (i := 16) rfl rfl, tbi_9 (i := 68) rfl rfl, ⟨by decide +kernel, by decide +kernel, by decide +kernel⟩, by decide⟩
theorem fl_X11_218 : Cond.fieldLink RX11 218 (TX11 68).1 (TX11 68).2.1 (TX11 68).2.2.1 ∈ tb := tbi_6 (i := 180) rfl rfl
theorem vl_X11_582 : VL RX11 582 yX11_nextOrder cX11_nextOrder 7 (some .boolean) 1 := ⟨tbi_9 (i := 69) rfl rfl, tbi_9 (i := 71) rfl rfl, tbs (i := 142) (by decide +kernel) rfl, tbi_1 (i := 16) rfl rfl, tbi_9 (i := 72) rfl rfl, ⟨by decide +kernel, by decide +kernel, by decide +kernel⟩, by decide⟩
theorem vl_X11_608 : VL RX11 608 yX11_countsWays cX11_countsWays 7 none 1 := ⟨tbi_9 (i := 118) rfl rfl, tbi_9 (i := 120) rfl rfl, tbs (i := 146) (by decide +kernel) rfl, tbi_1 (i := 16) rfl rfl, tbi_9 (i := 121) rfl rfl, ⟨by decide +kernel, by decide +kernel, by decide +kernel⟩, by decide⟩
theorem vl_X11_611 : VL RX11 611 yX11_findsFirst cX11_findsFirst 6 none 1 := ⟨tbi_9 (i := 134) rfl rfl, tbi_9 (i := 136) rfl rfl, tbs (i := 150) (by decide +kernel) rfl, tbi_1 (i := 16) rfl rfl, tbi_9 (i := 137) rfl rfl, ⟨by decide +kernel, by decide +kernel, by decide +kernel⟩, by decide⟩
theorem vl_X11_556 : VL RX11 556 yX11_cameIn cX11_cameIn 4 (some .int) 1 := ⟨tbi_9 (i := 17) rfl rfl, tbi_9 (i := 19) rfl rfl, tbs (i := 136) (by decide +kernel) rfl, tbi_1 (i := 16) rfl rfl, tbi_9 (i := 20) rfl rfl, ⟨by decide +kernel, by decide +kernel, by decide +kernel⟩, by decide⟩
