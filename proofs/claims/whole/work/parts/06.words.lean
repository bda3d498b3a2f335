/-! ===== printed: link words of the methods ===== -/
set_option maxRecDepth 100000 in
theorem con_RJ6_265 : Cond.constant RJ6 265 (1431655765) ∈ wT := wT_of ⟨List.mem_of_getElem? (i := 402) (by decide +kernel), by decide +kernel⟩
set_option maxRecDepth 100000 in
theorem con_RJ6_266 : Cond.constant RJ6 266 (858993459) ∈ wT := wT_of ⟨List.mem_of_getElem? (i := 403) (by decide +kernel), by decide +kernel⟩
set_option maxRecDepth 100000 in
theorem con_RJ6_267 : Cond.constant RJ6 267 (252645135) ∈ wT := wT_of ⟨List.mem_of_getElem? (i := 404) (by decide +kernel), by decide +kernel⟩
set_option maxRecDepth 100000 in
theorem con_RX3_83 : Cond.constant RX3 83 (-2147483648) ∈ wT := wT_of ⟨List.mem_of_getElem? (i := 414) (by decide +kernel), by decide +kernel⟩
set_option maxRecDepth 100000 in
theorem con_RX5_146 : Cond.constant RX5 146 (-900009) ∈ wT := wT_of ⟨List.mem_of_getElem? (i := 409) (by decide +kernel), by decide +kernel⟩
set_option maxRecDepth 100000 in
theorem con_RX5_158 : Cond.constant RX5 158 (-900003) ∈ wT := wT_of ⟨List.mem_of_getElem? (i := 459) (by decide +kernel), by decide +kernel⟩
set_option maxRecDepth 100000 in
theorem con_RX5_218 : Cond.constant RX5 218 (-900005) ∈ wT := wT_of ⟨List.mem_of_getElem? (i := 585) (by decide +kernel), by decide +kernel⟩
set_option maxRecDepth 100000 in
theorem con_RX5_59 : Cond.constant RX5 59 (-900002) ∈ wT := wT_of ⟨List.mem_of_getElem? (i := 257) (by decide +kernel), by decide +kernel⟩
set_option maxRecDepth 100000 in
theorem con_RX5_95 : Cond.constant RX5 95 (-900001) ∈ wT := wT_of ⟨List.mem_of_getElem? (i := 304) (by decide +kernel), by decide +kernel⟩
set_option maxRecDepth 100000 in
theorem con_RX6_112 : Cond.constant RX6 112 (-900009) ∈ wT := wT_of ⟨List.mem_of_getElem? (i := 802) (by decide +kernel), by decide +kernel⟩
set_option maxRecDepth 100000 in
theorem con_RX6_158 : Cond.constant RX6 158 (-900003) ∈ wT := wT_of ⟨List.mem_of_getElem? (i := 871) (by decide +kernel), by decide +kernel⟩
set_option maxRecDepth 100000 in
theorem con_RX6_217 : Cond.constant RX6 217 (-900005) ∈ wT := wT_of ⟨List.mem_of_getElem? (i := 976) (by decide +kernel), by decide +kernel⟩
set_option maxRecDepth 100000 in
theorem con_RX6_90 : Cond.constant RX6 90 (-900002) ∈ wT := wT_of ⟨List.mem_of_getElem? (i := 744) (by decide +kernel), by decide +kernel⟩
set_option maxRecDepth 100000 in
theorem con_RX6_97 : Cond.constant RX6 97 (-900001) ∈ wT := wT_of ⟨List.mem_of_getElem? (i := 761) (by decide +kernel), by decide +kernel⟩
set_option maxRecDepth 100000 in
theorem conl_RJ13_314 : Cond.constantLong RJ13 314 (6148914691236517205) ∈ wT := wT_of ⟨List.mem_of_getElem? (i := 293) (by decide +kernel), by decide +kernel⟩
set_option maxRecDepth 100000 in
theorem conl_RJ13_316 : Cond.constantLong RJ13 316 (3689348814741910323) ∈ wT := wT_of ⟨List.mem_of_getElem? (i := 294) (by decide +kernel), by decide +kernel⟩
set_option maxRecDepth 100000 in
theorem conl_RJ13_318 : Cond.constantLong RJ13 318 (1085102592571150095) ∈ wT := wT_of ⟨List.mem_of_getElem? (i := 295) (by decide +kernel), by decide +kernel⟩
set_option maxRecDepth 100000 in
theorem conl_RX0_61 : Cond.constantLong RX0 61 (-1) ∈ wT := wT_of ⟨List.mem_of_getElem? (i := 619) (by decide +kernel), by decide +kernel⟩
set_option maxRecDepth 100000 in
theorem conl_RX1_29 : Cond.constantLong RX1 29 (-1) ∈ wT := wT_of ⟨List.mem_of_getElem? (i := 217) (by decide +kernel), by decide +kernel⟩
set_option maxRecDepth 100000 in
theorem conl_RX2_23 : Cond.constantLong RX2 23 (-1) ∈ wT := wT_of ⟨List.mem_of_getElem? (i := 454) (by decide +kernel), by decide +kernel⟩
set_option maxRecDepth 100000 in
theorem conl_RX4_93 : Cond.constantLong RX4 93 (-1) ∈ wT := wT_of ⟨List.mem_of_getElem? (i := 581) (by decide +kernel), by decide +kernel⟩
set_option maxRecDepth 100000 in
theorem conl_RX5_109 : Cond.constantLong RX5 109 (-900002) ∈ wT := wT_of ⟨List.mem_of_getElem? (i := 329) (by decide +kernel), by decide +kernel⟩
set_option maxRecDepth 100000 in
theorem conl_RX5_131 : Cond.constantLong RX5 131 (-900001) ∈ wT := wT_of ⟨List.mem_of_getElem? (i := 381) (by decide +kernel), by decide +kernel⟩
set_option maxRecDepth 100000 in
theorem conl_RX5_171 : Cond.constantLong RX5 171 (-900003) ∈ wT := wT_of ⟨List.mem_of_getElem? (i := 480) (by decide +kernel), by decide +kernel⟩
set_option maxRecDepth 100000 in
theorem conl_RX6_102 : Cond.constantLong RX6 102 (-900002) ∈ wT := wT_of ⟨List.mem_of_getElem? (i := 782) (by decide +kernel), by decide +kernel⟩
set_option maxRecDepth 100000 in
theorem conl_RX6_126 : Cond.constantLong RX6 126 (2) ∈ wT := wT_of ⟨List.mem_of_getElem? (i := 815) (by decide +kernel), by decide +kernel⟩
set_option maxRecDepth 100000 in
theorem conl_RX6_128 : Cond.constantLong RX6 128 (-900001) ∈ wT := wT_of ⟨List.mem_of_getElem? (i := 816) (by decide +kernel), by decide +kernel⟩
set_option maxRecDepth 100000 in
theorem conl_RX6_149 : Cond.constantLong RX6 149 (-99) ∈ wT := wT_of ⟨List.mem_of_getElem? (i := 853) (by decide +kernel), by decide +kernel⟩
set_option maxRecDepth 100000 in
theorem conl_RX6_151 : Cond.constantLong RX6 151 (99) ∈ wT := wT_of ⟨List.mem_of_getElem? (i := 854) (by decide +kernel), by decide +kernel⟩
set_option maxRecDepth 100000 in
theorem conl_RX6_153 : Cond.constantLong RX6 153 (3) ∈ wT := wT_of ⟨List.mem_of_getElem? (i := 866) (by decide +kernel), by decide +kernel⟩
set_option maxRecDepth 100000 in
theorem conl_RX6_162 : Cond.constantLong RX6 162 (-900003) ∈ wT := wT_of ⟨List.mem_of_getElem? (i := 884) (by decide +kernel), by decide +kernel⟩
set_option maxRecDepth 100000 in
theorem conl_RX6_199 : Cond.constantLong RX6 199 (31) ∈ wT := wT_of ⟨List.mem_of_getElem? (i := 965) (by decide +kernel), by decide +kernel⟩
set_option maxRecDepth 100000 in
theorem conl_RX6_201 : Cond.constantLong RX6 201 (17) ∈ wT := wT_of ⟨List.mem_of_getElem? (i := 966) (by decide +kernel), by decide +kernel⟩
set_option maxRecDepth 100000 in
theorem conl_RX6_203 : Cond.constantLong RX6 203 (4095) ∈ wT := wT_of ⟨List.mem_of_getElem? (i := 967) (by decide +kernel), by decide +kernel⟩
set_option maxRecDepth 100000 in
theorem conl_RX6_88 : Cond.constantLong RX6 88 (8) ∈ wT := wT_of ⟨List.mem_of_getElem? (i := 740) (by decide +kernel), by decide +kernel⟩
set_option maxRecDepth 100000 in
theorem conl_RX6_91 : Cond.constantLong RX6 91 (7) ∈ wT := wT_of ⟨List.mem_of_getElem? (i := 752) (by decide +kernel), by decide +kernel⟩
set_option maxRecDepth 100000 in
theorem fl_RX0_12 : FL RX0 12 0 0 2 := ⟨wT_of ⟨List.mem_of_getElem? (i := 171) (by decide +kernel), by decide +kernel⟩, by decide, by decide, by decide⟩
set_option maxRecDepth 100000 in
theorem fl_RX0_18 : FL RX0 18 0 1 2 := ⟨wT_of ⟨List.mem_of_getElem? (i := 172) (by decide +kernel), by decide +kernel⟩, by decide, by decide, by decide⟩
set_option maxRecDepth 100000 in
theorem fl_RX0_26 : FL RX0 26 0 2 1 := ⟨wT_of ⟨List.mem_of_getElem? (i := 173) (by decide +kernel), by decide +kernel⟩, by decide, by decide, by decide⟩
set_option maxRecDepth 100000 in
theorem fl_RX0_38 : FL RX0 38 2 1 1 := ⟨wT_of ⟨List.mem_of_getElem? (i := 154) (by decide +kernel), by decide +kernel⟩, by decide, by decide, by decide⟩
set_option maxRecDepth 100000 in
theorem fl_RX0_41 : FL RX0 41 2 2 1 := ⟨wT_of ⟨List.mem_of_getElem? (i := 157) (by decide +kernel), by decide +kernel⟩, by decide, by decide, by decide⟩
set_option maxRecDepth 100000 in
theorem fl_RX0_44 : FL RX0 44 2 3 1 := ⟨wT_of ⟨List.mem_of_getElem? (i := 160) (by decide +kernel), by decide +kernel⟩, by decide, by decide, by decide⟩
set_option maxRecDepth 100000 in
theorem fl_RX0_53 : FL RX0 53 1 3 1 := ⟨wT_of ⟨List.mem_of_getElem? (i := 78) (by decide +kernel), by decide +kernel⟩, by decide, by decide, by decide⟩
set_option maxRecDepth 100000 in
theorem fl_RX0_58 : FL RX0 58 1 4 1 := ⟨wT_of ⟨List.mem_of_getElem? (i := 82) (by decide +kernel), by decide +kernel⟩, by decide, by decide, by decide⟩
set_option maxRecDepth 100000 in
theorem fl_RX0_63 : FL RX0 63 1 5 1 := ⟨wT_of ⟨List.mem_of_getElem? (i := 85) (by decide +kernel), by decide +kernel⟩, by decide, by decide, by decide⟩
set_option maxRecDepth 100000 in
theorem fl_RX0_66 : FL RX0 66 1 0 0 := ⟨wT_of ⟨List.mem_of_getElem? (i := 67) (by decide +kernel), by decide +kernel⟩, by decide, by decide, by decide⟩
set_option maxRecDepth 100000 in
theorem fl_RX1_15 : FL RX1 15 1 1 0 := ⟨wT_of ⟨List.mem_of_getElem? (i := 70) (by decide +kernel), by decide +kernel⟩, by decide, by decide, by decide⟩
set_option maxRecDepth 100000 in
theorem fl_RX1_18 : FL RX1 18 1 2 0 := ⟨wT_of ⟨List.mem_of_getElem? (i := 72) (by decide +kernel), by decide +kernel⟩, by decide, by decide, by decide⟩
set_option maxRecDepth 100000 in
theorem fl_RX1_21 : FL RX1 21 1 5 1 := ⟨wT_of ⟨List.mem_of_getElem? (i := 83) (by decide +kernel), by decide +kernel⟩, by decide, by decide, by decide⟩
set_option maxRecDepth 100000 in
theorem fl_RX1_31 : FL RX1 31 1 3 1 := ⟨wT_of ⟨List.mem_of_getElem? (i := 75) (by decide +kernel), by decide +kernel⟩, by decide, by decide, by decide⟩
set_option maxRecDepth 100000 in
theorem fl_RX1_34 : FL RX1 34 1 4 1 := ⟨wT_of ⟨List.mem_of_getElem? (i := 79) (by decide +kernel), by decide +kernel⟩, by decide, by decide, by decide⟩
set_option maxRecDepth 100000 in
theorem fl_RX1_44 : FL RX1 44 1 6 1 := ⟨wT_of ⟨List.mem_of_getElem? (i := 87) (by decide +kernel), by decide +kernel⟩, by decide, by decide, by decide⟩
set_option maxRecDepth 100000 in
theorem fl_RX1_9 : FL RX1 9 1 0 0 := ⟨wT_of ⟨List.mem_of_getElem? (i := 64) (by decide +kernel), by decide +kernel⟩, by decide, by decide, by decide⟩
set_option maxRecDepth 100000 in
theorem fl_RX2_13 : FL RX2 13 2 1 1 := ⟨wT_of ⟨List.mem_of_getElem? (i := 153) (by decide +kernel), by decide +kernel⟩, by decide, by decide, by decide⟩
set_option maxRecDepth 100000 in
theorem fl_RX2_17 : FL RX2 17 2 2 1 := ⟨wT_of ⟨List.mem_of_getElem? (i := 156) (by decide +kernel), by decide +kernel⟩, by decide, by decide, by decide⟩
set_option maxRecDepth 100000 in
theorem fl_RX2_20 : FL RX2 20 2 3 1 := ⟨wT_of ⟨List.mem_of_getElem? (i := 159) (by decide +kernel), by decide +kernel⟩, by decide, by decide, by decide⟩
set_option maxRecDepth 100000 in
theorem fl_RX2_25 : FL RX2 25 1 6 1 := ⟨wT_of ⟨List.mem_of_getElem? (i := 86) (by decide +kernel), by decide +kernel⟩, by decide, by decide, by decide⟩
set_option maxRecDepth 100000 in
theorem fl_RX2_30 : FL RX2 30 1 0 0 := ⟨wT_of ⟨List.mem_of_getElem? (i := 69) (by decide +kernel), by decide +kernel⟩, by decide, by decide, by decide⟩
set_option maxRecDepth 100000 in
theorem fl_RX2_7 : FL RX2 7 2 0 3 := ⟨wT_of ⟨List.mem_of_getElem? (i := 149) (by decide +kernel), by decide +kernel⟩, by decide, by decide, by decide⟩
set_option maxRecDepth 100000 in
theorem fl_RX3_15 : FL RX3 15 3 1 2 := ⟨wT_of ⟨List.mem_of_getElem? (i := 111) (by decide +kernel), by decide +kernel⟩, by decide, by decide, by decide⟩
set_option maxRecDepth 100000 in
theorem fl_RX3_18 : FL RX3 18 3 2 2 := ⟨wT_of ⟨List.mem_of_getElem? (i := 112) (by decide +kernel), by decide +kernel⟩, by decide, by decide, by decide⟩
set_option maxRecDepth 100000 in
theorem fl_RX3_21 : FL RX3 21 3 3 2 := ⟨wT_of ⟨List.mem_of_getElem? (i := 113) (by decide +kernel), by decide +kernel⟩, by decide, by decide, by decide⟩
set_option maxRecDepth 100000 in
theorem fl_RX3_25 : FL RX3 25 3 4 2 := ⟨wT_of ⟨List.mem_of_getElem? (i := 114) (by decide +kernel), by decide +kernel⟩, by decide, by decide, by decide⟩
set_option maxRecDepth 100000 in
theorem fl_RX3_28 : FL RX3 28 3 5 2 := ⟨wT_of ⟨List.mem_of_getElem? (i := 115) (by decide +kernel), by decide +kernel⟩, by decide, by decide, by decide⟩
set_option maxRecDepth 100000 in
theorem fl_RX3_31 : FL RX3 31 3 6 2 := ⟨wT_of ⟨List.mem_of_getElem? (i := 116) (by decide +kernel), by decide +kernel⟩, by decide, by decide, by decide⟩
set_option maxRecDepth 100000 in
theorem fl_RX3_34 : FL RX3 34 3 7 0 := ⟨wT_of ⟨List.mem_of_getElem? (i := 117) (by decide +kernel), by decide +kernel⟩, by decide, by decide, by decide⟩
set_option maxRecDepth 100000 in
theorem fl_RX3_38 : FL RX3 38 1 2 0 := ⟨wT_of ⟨List.mem_of_getElem? (i := 73) (by decide +kernel), by decide +kernel⟩, by decide, by decide, by decide⟩
set_option maxRecDepth 100000 in
theorem fl_RX3_64 : FL RX3 64 1 0 0 := ⟨wT_of ⟨List.mem_of_getElem? (i := 65) (by decide +kernel), by decide +kernel⟩, by decide, by decide, by decide⟩
set_option maxRecDepth 100000 in
theorem fl_RX3_67 : FL RX3 67 1 4 1 := ⟨wT_of ⟨List.mem_of_getElem? (i := 80) (by decide +kernel), by decide +kernel⟩, by decide, by decide, by decide⟩
set_option maxRecDepth 100000 in
theorem fl_RX3_71 : FL RX3 71 1 3 1 := ⟨wT_of ⟨List.mem_of_getElem? (i := 76) (by decide +kernel), by decide +kernel⟩, by decide, by decide, by decide⟩
set_option maxRecDepth 100000 in
theorem fl_RX3_74 : FL RX3 74 1 5 1 := ⟨wT_of ⟨List.mem_of_getElem? (i := 84) (by decide +kernel), by decide +kernel⟩, by decide, by decide, by decide⟩
set_option maxRecDepth 100000 in
theorem fl_RX3_9 : FL RX3 9 3 0 2 := ⟨wT_of ⟨List.mem_of_getElem? (i := 110) (by decide +kernel), by decide +kernel⟩, by decide, by decide, by decide⟩
set_option maxRecDepth 100000 in
theorem fl_RX3_99 : FL RX3 99 2 0 3 := ⟨wT_of ⟨List.mem_of_getElem? (i := 151) (by decide +kernel), by decide +kernel⟩, by decide, by decide, by decide⟩
set_option maxRecDepth 100000 in
theorem fl_RX4_12 : FL RX4 12 4 0 2 := ⟨wT_of ⟨List.mem_of_getElem? (i := 190) (by decide +kernel), by decide +kernel⟩, by decide, by decide, by decide⟩
set_option maxRecDepth 100000 in
theorem fl_RX4_18 : FL RX4 18 4 1 2 := ⟨wT_of ⟨List.mem_of_getElem? (i := 191) (by decide +kernel), by decide +kernel⟩, by decide, by decide, by decide⟩
set_option maxRecDepth 100000 in
theorem fl_RX4_21 : FL RX4 21 4 2 2 := ⟨wT_of ⟨List.mem_of_getElem? (i := 192) (by decide +kernel), by decide +kernel⟩, by decide, by decide, by decide⟩
set_option maxRecDepth 100000 in
theorem fl_RX4_24 : FL RX4 24 4 3 2 := ⟨wT_of ⟨List.mem_of_getElem? (i := 193) (by decide +kernel), by decide +kernel⟩, by decide, by decide, by decide⟩
set_option maxRecDepth 100000 in
theorem fl_RX4_44 : FL RX4 44 1 0 0 := ⟨wT_of ⟨List.mem_of_getElem? (i := 66) (by decide +kernel), by decide +kernel⟩, by decide, by decide, by decide⟩
set_option maxRecDepth 100000 in
theorem fl_RX4_82 : FL RX4 82 2 0 3 := ⟨wT_of ⟨List.mem_of_getElem? (i := 150) (by decide +kernel), by decide +kernel⟩, by decide, by decide, by decide⟩
set_option maxRecDepth 100000 in
theorem fl_RX4_90 : FL RX4 90 4 4 0 := ⟨wT_of ⟨List.mem_of_getElem? (i := 194) (by decide +kernel), by decide +kernel⟩, by decide, by decide, by decide⟩
set_option maxRecDepth 100000 in
theorem fl_RX5_103 : FL RX5 103 1 0 0 := ⟨wT_of ⟨List.mem_of_getElem? (i := 68) (by decide +kernel), by decide +kernel⟩, by decide, by decide, by decide⟩
set_option maxRecDepth 100000 in
theorem fl_RX5_106 : FL RX5 106 1 1 0 := ⟨wT_of ⟨List.mem_of_getElem? (i := 71) (by decide +kernel), by decide +kernel⟩, by decide, by decide, by decide⟩
set_option maxRecDepth 100000 in
theorem fl_RX5_12 : FL RX5 12 5 0 2 := ⟨wT_of ⟨List.mem_of_getElem? (i := 222) (by decide +kernel), by decide +kernel⟩, by decide, by decide, by decide⟩
set_option maxRecDepth 100000 in
theorem fl_RX5_163 : FL RX5 163 2 0 3 := ⟨wT_of ⟨List.mem_of_getElem? (i := 152) (by decide +kernel), by decide +kernel⟩, by decide, by decide, by decide⟩
set_option maxRecDepth 100000 in
theorem fl_RX5_19 : FL RX5 19 5 1 2 := ⟨wT_of ⟨List.mem_of_getElem? (i := 223) (by decide +kernel), by decide +kernel⟩, by decide, by decide, by decide⟩
set_option maxRecDepth 100000 in
theorem fl_RX5_192 : FL RX5 192 1 6 1 := ⟨wT_of ⟨List.mem_of_getElem? (i := 88) (by decide +kernel), by decide +kernel⟩, by decide, by decide, by decide⟩
set_option maxRecDepth 100000 in
theorem fl_RX5_223 : FL RX5 223 2 1 1 := ⟨wT_of ⟨List.mem_of_getElem? (i := 155) (by decide +kernel), by decide +kernel⟩, by decide, by decide, by decide⟩
set_option maxRecDepth 100000 in
theorem fl_RX5_230 : FL RX5 230 2 3 1 := ⟨wT_of ⟨List.mem_of_getElem? (i := 161) (by decide +kernel), by decide +kernel⟩, by decide, by decide, by decide⟩
set_option maxRecDepth 100000 in
theorem fl_RX5_233 : FL RX5 233 2 2 1 := ⟨wT_of ⟨List.mem_of_getElem? (i := 158) (by decide +kernel), by decide +kernel⟩, by decide, by decide, by decide⟩
set_option maxRecDepth 100000 in
theorem fl_RX5_247 : FL RX5 247 0 2 1 := ⟨wT_of ⟨List.mem_of_getElem? (i := 174) (by decide +kernel), by decide +kernel⟩, by decide, by decide, by decide⟩
set_option maxRecDepth 100000 in
theorem fl_RX5_26 : FL RX5 26 5 2 2 := ⟨wT_of ⟨List.mem_of_getElem? (i := 224) (by decide +kernel), by decide +kernel⟩, by decide, by decide, by decide⟩
set_option maxRecDepth 100000 in
theorem fl_RX5_266 : FL RX5 266 5 8 3 := ⟨wT_of ⟨List.mem_of_getElem? (i := 230) (by decide +kernel), by decide +kernel⟩, by decide, by decide, by decide⟩
set_option maxRecDepth 100000 in
theorem fl_RX5_269 : FL RX5 269 5 9 3 := ⟨wT_of ⟨List.mem_of_getElem? (i := 231) (by decide +kernel), by decide +kernel⟩, by decide, by decide, by decide⟩
set_option maxRecDepth 100000 in
theorem fl_RX5_33 : FL RX5 33 5 3 2 := ⟨wT_of ⟨List.mem_of_getElem? (i := 225) (by decide +kernel), by decide +kernel⟩, by decide, by decide, by decide⟩
set_option maxRecDepth 100000 in
theorem fl_RX5_39 : FL RX5 39 5 4 2 := ⟨wT_of ⟨List.mem_of_getElem? (i := 226) (by decide +kernel), by decide +kernel⟩, by decide, by decide, by decide⟩
set_option maxRecDepth 100000 in
theorem fl_RX5_44 : FL RX5 44 5 5 2 := ⟨wT_of ⟨List.mem_of_getElem? (i := 227) (by decide +kernel), by decide +kernel⟩, by decide, by decide, by decide⟩
set_option maxRecDepth 100000 in
theorem fl_RX5_48 : FL RX5 48 5 6 2 := ⟨wT_of ⟨List.mem_of_getElem? (i := 228) (by decide +kernel), by decide +kernel⟩, by decide, by decide, by decide⟩
set_option maxRecDepth 100000 in
theorem fl_RX5_52 : FL RX5 52 5 7 2 := ⟨wT_of ⟨List.mem_of_getElem? (i := 229) (by decide +kernel), by decide +kernel⟩, by decide, by decide, by decide⟩
set_option maxRecDepth 100000 in
theorem fl_RX5_66 : FL RX5 66 1 2 0 := ⟨wT_of ⟨List.mem_of_getElem? (i := 74) (by decide +kernel), by decide +kernel⟩, by decide, by decide, by decide⟩
set_option maxRecDepth 100000 in
theorem fl_RX5_78 : FL RX5 78 1 3 1 := ⟨wT_of ⟨List.mem_of_getElem? (i := 77) (by decide +kernel), by decide +kernel⟩, by decide, by decide, by decide⟩
set_option maxRecDepth 100000 in
theorem fl_RX5_88 : FL RX5 88 1 4 1 := ⟨wT_of ⟨List.mem_of_getElem? (i := 81) (by decide +kernel), by decide +kernel⟩, by decide, by decide, by decide⟩
set_option maxRecDepth 100000 in
theorem fl_RX6_13 : FL RX6 13 6 3 2 := ⟨wT_of ⟨List.mem_of_getElem? (i := 674) (by decide +kernel), by decide +kernel⟩, by decide, by decide, by decide⟩
set_option maxRecDepth 100000 in
theorem fl_RX6_17 : FL RX6 17 6 4 2 := ⟨wT_of ⟨List.mem_of_getElem? (i := 675) (by decide +kernel), by decide +kernel⟩, by decide, by decide, by decide⟩
set_option maxRecDepth 100000 in
theorem fl_RX6_20 : FL RX6 20 6 5 2 := ⟨wT_of ⟨List.mem_of_getElem? (i := 676) (by decide +kernel), by decide +kernel⟩, by decide, by decide, by decide⟩
set_option maxRecDepth 100000 in
theorem fl_RX6_205 : FL RX6 205 6 14 0 := ⟨wT_of ⟨List.mem_of_getElem? (i := 685) (by decide +kernel), by decide +kernel⟩, by decide, by decide, by decide⟩
set_option maxRecDepth 100000 in
theorem fl_RX6_23 : FL RX6 23 6 6 2 := ⟨wT_of ⟨List.mem_of_getElem? (i := 677) (by decide +kernel), by decide +kernel⟩, by decide, by decide, by decide⟩
set_option maxRecDepth 100000 in
theorem fl_RX6_27 : FL RX6 27 6 7 2 := ⟨wT_of ⟨List.mem_of_getElem? (i := 678) (by decide +kernel), by decide +kernel⟩, by decide, by decide, by decide⟩
set_option maxRecDepth 100000 in
theorem fl_RX6_30 : FL RX6 30 6 8 2 := ⟨wT_of ⟨List.mem_of_getElem? (i := 679) (by decide +kernel), by decide +kernel⟩, by decide, by decide, by decide⟩
set_option maxRecDepth 100000 in
theorem fl_RX6_33 : FL RX6 33 6 9 2 := ⟨wT_of ⟨List.mem_of_getElem? (i := 680) (by decide +kernel), by decide +kernel⟩, by decide, by decide, by decide⟩
set_option maxRecDepth 100000 in
theorem fl_RX6_36 : FL RX6 36 6 10 2 := ⟨wT_of ⟨List.mem_of_getElem? (i := 681) (by decide +kernel), by decide +kernel⟩, by decide, by decide, by decide⟩
set_option maxRecDepth 100000 in
theorem fl_RX6_39 : FL RX6 39 6 11 2 := ⟨wT_of ⟨List.mem_of_getElem? (i := 682) (by decide +kernel), by decide +kernel⟩, by decide, by decide, by decide⟩
set_option maxRecDepth 100000 in
theorem fl_RX6_42 : FL RX6 42 6 12 2 := ⟨wT_of ⟨List.mem_of_getElem? (i := 683) (by decide +kernel), by decide +kernel⟩, by decide, by decide, by decide⟩
set_option maxRecDepth 100000 in
theorem fl_RX6_45 : FL RX6 45 6 13 2 := ⟨wT_of ⟨List.mem_of_getElem? (i := 684) (by decide +kernel), by decide +kernel⟩, by decide, by decide, by decide⟩
set_option maxRecDepth 100000 in
theorem fl_RX6_48 : FL RX6 48 6 15 2 := ⟨wT_of ⟨List.mem_of_getElem? (i := 686) (by decide +kernel), by decide +kernel⟩, by decide, by decide, by decide⟩
set_option maxRecDepth 100000 in
theorem fl_RX6_51 : FL RX6 51 6 16 2 := ⟨wT_of ⟨List.mem_of_getElem? (i := 687) (by decide +kernel), by decide +kernel⟩, by decide, by decide, by decide⟩
set_option maxRecDepth 100000 in
theorem fl_RX6_54 : FL RX6 54 6 17 2 := ⟨wT_of ⟨List.mem_of_getElem? (i := 688) (by decide +kernel), by decide +kernel⟩, by decide, by decide, by decide⟩
set_option maxRecDepth 100000 in
theorem fl_RX6_57 : FL RX6 57 6 18 2 := ⟨wT_of ⟨List.mem_of_getElem? (i := 689) (by decide +kernel), by decide +kernel⟩, by decide, by decide, by decide⟩
set_option maxRecDepth 100000 in
theorem fl_RX6_60 : FL RX6 60 6 19 2 := ⟨wT_of ⟨List.mem_of_getElem? (i := 690) (by decide +kernel), by decide +kernel⟩, by decide, by decide, by decide⟩
set_option maxRecDepth 100000 in
theorem fl_RX6_63 : FL RX6 63 6 20 2 := ⟨wT_of ⟨List.mem_of_getElem? (i := 691) (by decide +kernel), by decide +kernel⟩, by decide, by decide, by decide⟩
set_option maxRecDepth 100000 in
theorem fl_RX6_7 : FL RX6 7 6 2 2 := ⟨wT_of ⟨List.mem_of_getElem? (i := 673) (by decide +kernel), by decide +kernel⟩, by decide, by decide, by decide⟩
set_option maxRecDepth 100000 in
theorem fl_RX6_70 : FL RX6 70 6 0 0 := ⟨wT_of ⟨List.mem_of_getElem? (i := 671) (by decide +kernel), by decide +kernel⟩, by decide, by decide, by decide⟩
set_option maxRecDepth 100000 in
theorem fl_RX6_74 : FL RX6 74 6 1 0 := ⟨wT_of ⟨List.mem_of_getElem? (i := 672) (by decide +kernel), by decide +kernel⟩, by decide, by decide, by decide⟩
theorem fw_0_2 : FW 0 2 .long := ⟨rfl, by decide +kernel⟩
theorem fw_1_0 : FW 1 0 .int := ⟨rfl, by decide +kernel⟩
theorem fw_1_1 : FW 1 1 .int := ⟨rfl, by decide +kernel⟩
theorem fw_1_2 : FW 1 2 .int := ⟨rfl, by decide +kernel⟩
theorem fw_1_3 : FW 1 3 .long := ⟨rfl, by decide +kernel⟩
theorem fw_1_4 : FW 1 4 .long := ⟨rfl, by decide +kernel⟩
theorem fw_1_5 : FW 1 5 .long := ⟨rfl, by decide +kernel⟩
theorem fw_1_6 : FW 1 6 .long := ⟨rfl, by decide +kernel⟩
theorem fw_2_0 : FW 2 0 .boolean := ⟨rfl, by decide +kernel⟩
theorem fw_2_1 : FW 2 1 .long := ⟨rfl, by decide +kernel⟩
theorem fw_2_2 : FW 2 2 .long := ⟨rfl, by decide +kernel⟩
theorem fw_2_3 : FW 2 3 .long := ⟨rfl, by decide +kernel⟩
theorem fw_3_7 : FW 3 7 .int := ⟨rfl, by decide +kernel⟩
theorem fw_4_4 : FW 4 4 .int := ⟨rfl, by decide +kernel⟩
theorem fw_5_8 : FW 5 8 .boolean := ⟨rfl, by decide +kernel⟩
theorem fw_5_9 : FW 5 9 .boolean := ⟨rfl, by decide +kernel⟩
theorem fw_6_0 : FW 6 0 .int := ⟨rfl, by decide +kernel⟩
theorem fw_6_1 : FW 6 1 .int := ⟨rfl, by decide +kernel⟩
theorem fw_6_14 : FW 6 14 .int := ⟨rfl, by decide +kernel⟩
set_option maxRecDepth 100000 in
theorem ml_RX0_22 : Cond.methodLink RX0 22 yX0_layGreedily ∈ wT := wT_of ⟨List.mem_of_getElem? (i := 615) (by decide +kernel), by decide +kernel⟩
set_option maxRecDepth 100000 in
theorem ml_RX0_30 : Cond.methodLink RX0 30 yX0_search ∈ wT := wT_of ⟨List.mem_of_getElem? (i := 620) (by decide +kernel), by decide +kernel⟩
set_option maxRecDepth 100000 in
theorem ml_RX0_34 : Cond.methodLink RX0 34 yX0_shift ∈ wT := wT_of ⟨List.mem_of_getElem? (i := 631) (by decide +kernel), by decide +kernel⟩
set_option maxRecDepth 100000 in
theorem ml_RX0_47 : Cond.methodLink RX0 47 yJ13_bitCount_95d88 ∈ wT := wT_of ⟨List.mem_of_getElem? (i := 644) (by decide +kernel), by decide +kernel⟩
set_option maxRecDepth 100000 in
theorem ml_RX0_70 : Cond.methodLink RX0 70 yX0_downsBeside ∈ wT := wT_of ⟨List.mem_of_getElem? (i := 624) (by decide +kernel), by decide +kernel⟩
set_option maxRecDepth 100000 in
theorem ml_RX0_74 : Cond.methodLink RX0 74 yX0_mates ∈ wT := wT_of ⟨List.mem_of_getElem? (i := 627) (by decide +kernel), by decide +kernel⟩
set_option maxRecDepth 100000 in
theorem ml_RX0_77 : Cond.methodLink RX0 77 yX0_mateOf ∈ wT := wT_of ⟨List.mem_of_getElem? (i := 635) (by decide +kernel), by decide +kernel⟩
set_option maxRecDepth 100000 in
theorem ml_RX0_80 : Cond.methodLink RX0 80 yX2_put ∈ wT := wT_of ⟨List.mem_of_getElem? (i := 639) (by decide +kernel), by decide +kernel⟩
set_option maxRecDepth 100000 in
theorem ml_RX1_25 : Cond.methodLink RX1 25 yX1_pointBit ∈ wT := wT_of ⟨List.mem_of_getElem? (i := 213) (by decide +kernel), by decide +kernel⟩
set_option maxRecDepth 100000 in
theorem ml_RX1_37 : Cond.methodLink RX1 37 yX1_findInner ∈ wT := wT_of ⟨List.mem_of_getElem? (i := 218) (by decide +kernel), by decide +kernel⟩
set_option maxRecDepth 100000 in
theorem ml_RX1_40 : Cond.methodLink RX1 40 yX1_shape ∈ wT := wT_of ⟨List.mem_of_getElem? (i := 289) (by decide +kernel), by decide +kernel⟩
set_option maxRecDepth 100000 in
theorem ml_RX1_47 : Cond.methodLink RX1 47 yX1_across ∈ wT := wT_of ⟨List.mem_of_getElem? (i := 594) (by decide +kernel), by decide +kernel⟩
set_option maxRecDepth 100000 in
theorem ml_RX3_103 : Cond.methodLink RX3 103 yX3_onwardBy ∈ wT := wT_of ⟨List.mem_of_getElem? (i := 442) (by decide +kernel), by decide +kernel⟩
set_option maxRecDepth 100000 in
theorem ml_RX3_107 : Cond.methodLink RX3 107 yX3_step ∈ wT := wT_of ⟨List.mem_of_getElem? (i := 446) (by decide +kernel), by decide +kernel⟩
set_option maxRecDepth 100000 in
theorem ml_RX3_111 : Cond.methodLink RX3 111 yX3_isBest ∈ wT := wT_of ⟨List.mem_of_getElem? (i := 464) (by decide +kernel), by decide +kernel⟩
set_option maxRecDepth 100000 in
theorem ml_RX3_115 : Cond.methodLink RX3 115 yX2_put ∈ wT := wT_of ⟨List.mem_of_getElem? (i := 450) (by decide +kernel), by decide +kernel⟩
set_option maxRecDepth 100000 in
theorem ml_RX3_119 : Cond.methodLink RX3 119 yX2_kindAt ∈ wT := wT_of ⟨List.mem_of_getElem? (i := 485) (by decide +kernel), by decide +kernel⟩
set_option maxRecDepth 100000 in
theorem ml_RX3_43 : Cond.methodLink RX3 43 yJ7_fill_53178 ∈ wT := wT_of ⟨List.mem_of_getElem? (i := 350) (by decide +kernel), by decide +kernel⟩
set_option maxRecDepth 100000 in
theorem ml_RX3_49 : Cond.methodLink RX3 49 yX3_openAfter ∈ wT := wT_of ⟨List.mem_of_getElem? (i := 351) (by decide +kernel), by decide +kernel⟩
set_option maxRecDepth 100000 in
theorem ml_RX3_53 : Cond.methodLink RX3 53 yX3_nodeFor ∈ wT := wT_of ⟨List.mem_of_getElem? (i := 354) (by decide +kernel), by decide +kernel⟩
set_option maxRecDepth 100000 in
theorem ml_RX3_57 : Cond.methodLink RX3 57 yX3_countOnward ∈ wT := wT_of ⟨List.mem_of_getElem? (i := 358) (by decide +kernel), by decide +kernel⟩
set_option maxRecDepth 100000 in
theorem ml_RX3_61 : Cond.methodLink RX3 61 yX3_countHither ∈ wT := wT_of ⟨List.mem_of_getElem? (i := 362) (by decide +kernel), by decide +kernel⟩
set_option maxRecDepth 100000 in
theorem ml_RX3_77 : Cond.methodLink RX3 77 yX3_waysThrough ∈ wT := wT_of ⟨List.mem_of_getElem? (i := 394) (by decide +kernel), by decide +kernel⟩
set_option maxRecDepth 100000 in
theorem ml_RX3_84 : Cond.methodLink RX3 84 yX3_worthBy ∈ wT := wT_of ⟨List.mem_of_getElem? (i := 415) (by decide +kernel), by decide +kernel⟩
set_option maxRecDepth 100000 in
theorem ml_RX3_94 : Cond.methodLink RX3 94 yX2_clear ∈ wT := wT_of ⟨List.mem_of_getElem? (i := 441) (by decide +kernel), by decide +kernel⟩
set_option maxRecDepth 100000 in
theorem ml_RX4_28 : Cond.methodLink RX4 28 yX2_clear ∈ wT := wT_of ⟨List.mem_of_getElem? (i := 277) (by decide +kernel), by decide +kernel⟩
set_option maxRecDepth 100000 in
theorem ml_RX4_31 : Cond.methodLink RX4 31 yX2_lows ∈ wT := wT_of ⟨List.mem_of_getElem? (i := 566) (by decide +kernel), by decide +kernel⟩
set_option maxRecDepth 100000 in
theorem ml_RX4_35 : Cond.methodLink RX4 35 yX2_highs ∈ wT := wT_of ⟨List.mem_of_getElem? (i := 549) (by decide +kernel), by decide +kernel⟩
set_option maxRecDepth 100000 in
theorem ml_RX4_38 : Cond.methodLink RX4 38 yJ13_bitCount_95d88 ∈ wT := wT_of ⟨List.mem_of_getElem? (i := 567) (by decide +kernel), by decide +kernel⟩
set_option maxRecDepth 100000 in
theorem ml_RX4_50 : Cond.methodLink RX4 50 yX2_flip ∈ wT := wT_of ⟨List.mem_of_getElem? (i := 550) (by decide +kernel), by decide +kernel⟩
set_option maxRecDepth 100000 in
theorem ml_RX4_54 : Cond.methodLink RX4 54 yJ7_fill_53178 ∈ wT := wT_of ⟨List.mem_of_getElem? (i := 543) (by decide +kernel), by decide +kernel⟩
set_option maxRecDepth 100000 in
theorem ml_RX4_60 : Cond.methodLink RX4 60 yX2_take ∈ wT := wT_of ⟨List.mem_of_getElem? (i := 544) (by decide +kernel), by decide +kernel⟩
set_option maxRecDepth 100000 in
theorem ml_RX4_64 : Cond.methodLink RX4 64 yX4_sinkTallied ∈ wT := wT_of ⟨List.mem_of_getElem? (i := 545) (by decide +kernel), by decide +kernel⟩
set_option maxRecDepth 100000 in
theorem ml_RX4_68 : Cond.methodLink RX4 68 yX2_isLike ∈ wT := wT_of ⟨List.mem_of_getElem? (i := 551) (by decide +kernel), by decide +kernel⟩
set_option maxRecDepth 100000 in
theorem ml_RX4_78 : Cond.methodLink RX4 78 yX4_toEnd ∈ wT := wT_of ⟨List.mem_of_getElem? (i := 576) (by decide +kernel), by decide +kernel⟩
set_option maxRecDepth 100000 in
theorem ml_RX4_86 : Cond.methodLink RX4 86 yX4_countFrom ∈ wT := wT_of ⟨List.mem_of_getElem? (i := 577) (by decide +kernel), by decide +kernel⟩
set_option maxRecDepth 100000 in
theorem ml_RX4_95 : Cond.methodLink RX4 95 yX4_firstBranch ∈ wT := wT_of ⟨List.mem_of_getElem? (i := 582) (by decide +kernel), by decide +kernel⟩
set_option maxRecDepth 100000 in
theorem ml_RX5_114 : Cond.methodLink RX5 114 yX5_powerInProduct ∈ wT := wT_of ⟨List.mem_of_getElem? (i := 332) (by decide +kernel), by decide +kernel⟩
set_option maxRecDepth 100000 in
theorem ml_RX5_118 : Cond.methodLink RX5 118 yX5_makeSteps ∈ wT := wT_of ⟨List.mem_of_getElem? (i := 342) (by decide +kernel), by decide +kernel⟩
set_option maxRecDepth 100000 in
theorem ml_RX5_121 : Cond.methodLink RX5 121 yX3_total ∈ wT := wT_of ⟨List.mem_of_getElem? (i := 366) (by decide +kernel), by decide +kernel⟩
set_option maxRecDepth 100000 in
theorem ml_RX5_125 : Cond.methodLink RX5 125 yX1_hasCell ∈ wT := wT_of ⟨List.mem_of_getElem? (i := 374) (by decide +kernel), by decide +kernel⟩
set_option maxRecDepth 100000 in
theorem ml_RX5_128 : Cond.methodLink RX5 128 yX5_isKind ∈ wT := wT_of ⟨List.mem_of_getElem? (i := 378) (by decide +kernel), by decide +kernel⟩
set_option maxRecDepth 100000 in
theorem ml_RX5_133 : Cond.methodLink RX5 133 yX3_waysThrough ∈ wT := wT_of ⟨List.mem_of_getElem? (i := 382) (by decide +kernel), by decide +kernel⟩
set_option maxRecDepth 100000 in
theorem ml_RX5_137 : Cond.methodLink RX5 137 yX3_kindSet ∈ wT := wT_of ⟨List.mem_of_getElem? (i := 390) (by decide +kernel), by decide +kernel⟩
set_option maxRecDepth 100000 in
theorem ml_RX5_141 : Cond.methodLink RX5 141 yJ6_bitCount_0f7a4 ∈ wT := wT_of ⟨List.mem_of_getElem? (i := 399) (by decide +kernel), by decide +kernel⟩
set_option maxRecDepth 100000 in
theorem ml_RX5_147 : Cond.methodLink RX5 147 yX3_rank ∈ wT := wT_of ⟨List.mem_of_getElem? (i := 410) (by decide +kernel), by decide +kernel⟩
set_option maxRecDepth 100000 in
theorem ml_RX5_151 : Cond.methodLink RX5 151 yX5_isSlot ∈ wT := wT_of ⟨List.mem_of_getElem? (i := 434) (by decide +kernel), by decide +kernel⟩
set_option maxRecDepth 100000 in
theorem ml_RX5_154 : Cond.methodLink RX5 154 yX3_walkTo ∈ wT := wT_of ⟨List.mem_of_getElem? (i := 437) (by decide +kernel), by decide +kernel⟩
set_option maxRecDepth 100000 in
theorem ml_RX5_159 : Cond.methodLink RX5 159 yX3_walkDearest ∈ wT := wT_of ⟨List.mem_of_getElem? (i := 460) (by decide +kernel), by decide +kernel⟩
set_option maxRecDepth 100000 in
theorem ml_RX5_167 : Cond.methodLink RX5 167 yX2_take ∈ wT := wT_of ⟨List.mem_of_getElem? (i := 472) (by decide +kernel), by decide +kernel⟩
set_option maxRecDepth 100000 in
theorem ml_RX5_173 : Cond.methodLink RX5 173 yX3_waysAhead ∈ wT := wT_of ⟨List.mem_of_getElem? (i := 481) (by decide +kernel), by decide +kernel⟩
set_option maxRecDepth 100000 in
theorem ml_RX5_177 : Cond.methodLink RX5 177 yX2_kindAt ∈ wT := wT_of ⟨List.mem_of_getElem? (i := 493) (by decide +kernel), by decide +kernel⟩
set_option maxRecDepth 100000 in
theorem ml_RX5_180 : Cond.methodLink RX5 180 yX2_cellsOf ∈ wT := wT_of ⟨List.mem_of_getElem? (i := 498) (by decide +kernel), by decide +kernel⟩
set_option maxRecDepth 100000 in
theorem ml_RX5_184 : Cond.methodLink RX5 184 yX1_hasPoint ∈ wT := wT_of ⟨List.mem_of_getElem? (i := 510) (by decide +kernel), by decide +kernel⟩
set_option maxRecDepth 100000 in
theorem ml_RX5_188 : Cond.methodLink RX5 188 yX1_pointBit ∈ wT := wT_of ⟨List.mem_of_getElem? (i := 514) (by decide +kernel), by decide +kernel⟩
set_option maxRecDepth 100000 in
theorem ml_RX5_195 : Cond.methodLink RX5 195 yX2_lows ∈ wT := wT_of ⟨List.mem_of_getElem? (i := 515) (by decide +kernel), by decide +kernel⟩
set_option maxRecDepth 100000 in
theorem ml_RX5_199 : Cond.methodLink RX5 199 yX2_highs ∈ wT := wT_of ⟨List.mem_of_getElem? (i := 519) (by decide +kernel), by decide +kernel⟩
set_option maxRecDepth 100000 in
theorem ml_RX5_202 : Cond.methodLink RX5 202 yX2_flip ∈ wT := wT_of ⟨List.mem_of_getElem? (i := 531) (by decide +kernel), by decide +kernel⟩
set_option maxRecDepth 100000 in
theorem ml_RX5_206 : Cond.methodLink RX5 206 yX4_between ∈ wT := wT_of ⟨List.mem_of_getElem? (i := 539) (by decide +kernel), by decide +kernel⟩
set_option maxRecDepth 100000 in
theorem ml_RX5_210 : Cond.methodLink RX5 210 yX4_toEnd ∈ wT := wT_of ⟨List.mem_of_getElem? (i := 562) (by decide +kernel), by decide +kernel⟩
set_option maxRecDepth 100000 in
theorem ml_RX5_214 : Cond.methodLink RX5 214 yX4_family ∈ wT := wT_of ⟨List.mem_of_getElem? (i := 572) (by decide +kernel), by decide +kernel⟩
set_option maxRecDepth 100000 in
theorem ml_RX5_219 : Cond.methodLink RX5 219 yX1_isSymmetric ∈ wT := wT_of ⟨List.mem_of_getElem? (i := 590) (by decide +kernel), by decide +kernel⟩
set_option maxRecDepth 100000 in
theorem ml_RX5_226 : Cond.methodLink RX5 226 yX1_across ∈ wT := wT_of ⟨List.mem_of_getElem? (i := 598) (by decide +kernel), by decide +kernel⟩
set_option maxRecDepth 100000 in
theorem ml_RX5_236 : Cond.methodLink RX5 236 yX2_alikeIn ∈ wT := wT_of ⟨List.mem_of_getElem? (i := 599) (by decide +kernel), by decide +kernel⟩
set_option maxRecDepth 100000 in
theorem ml_RX5_240 : Cond.methodLink RX5 240 yX5_makeJoining ∈ wT := wT_of ⟨List.mem_of_getElem? (i := 607) (by decide +kernel), by decide +kernel⟩
set_option maxRecDepth 100000 in
theorem ml_RX5_243 : Cond.methodLink RX5 243 yX0_joined ∈ wT := wT_of ⟨List.mem_of_getElem? (i := 640) (by decide +kernel), by decide +kernel⟩
set_option maxRecDepth 100000 in
theorem ml_RX5_250 : Cond.methodLink RX5 250 yX5_powerIn ∈ wT := wT_of ⟨List.mem_of_getElem? (i := 335) (by decide +kernel), by decide +kernel⟩
set_option maxRecDepth 100000 in
theorem ml_RX5_254 : Cond.methodLink RX5 254 yJ7_fill_53178 ∈ wT := wT_of ⟨List.mem_of_getElem? (i := 262) (by decide +kernel), by decide +kernel⟩
set_option maxRecDepth 100000 in
theorem ml_RX5_260 : Cond.methodLink RX5 260 yX2_clear ∈ wT := wT_of ⟨List.mem_of_getElem? (i := 269) (by decide +kernel), by decide +kernel⟩
set_option maxRecDepth 100000 in
theorem ml_RX5_263 : Cond.methodLink RX5 263 yX4_forget ∈ wT := wT_of ⟨List.mem_of_getElem? (i := 273) (by decide +kernel), by decide +kernel⟩
set_option maxRecDepth 100000 in
theorem ml_RX5_272 : Cond.methodLink RX5 272 yX3_build ∈ wT := wT_of ⟨List.mem_of_getElem? (i := 346) (by decide +kernel), by decide +kernel⟩
set_option maxRecDepth 100000 in
theorem ml_RX5_276 : Cond.methodLink RX5 276 yX0_solve ∈ wT := wT_of ⟨List.mem_of_getElem? (i := 611) (by decide +kernel), by decide +kernel⟩
set_option maxRecDepth 100000 in
theorem ml_RX5_55 : Cond.methodLink RX5 55 yX1_shape ∈ wT := wT_of ⟨List.mem_of_getElem? (i := 209) (by decide +kernel), by decide +kernel⟩
set_option maxRecDepth 100000 in
theorem ml_RX5_60 : Cond.methodLink RX5 60 yX5_forgetWeights ∈ wT := wT_of ⟨List.mem_of_getElem? (i := 258) (by decide +kernel), by decide +kernel⟩
set_option maxRecDepth 100000 in
theorem ml_RX5_63 : Cond.methodLink RX5 63 yX5_forgetGround ∈ wT := wT_of ⟨List.mem_of_getElem? (i := 265) (by decide +kernel), by decide +kernel⟩
set_option maxRecDepth 100000 in
theorem ml_RX5_70 : Cond.methodLink RX5 70 yX5_hexagonFits ∈ wT := wT_of ⟨List.mem_of_getElem? (i := 282) (by decide +kernel), by decide +kernel⟩
set_option maxRecDepth 100000 in
theorem ml_RX5_74 : Cond.methodLink RX5 74 yX1_shapeHexagon ∈ wT := wT_of ⟨List.mem_of_getElem? (i := 285) (by decide +kernel), by decide +kernel⟩
set_option maxRecDepth 100000 in
theorem ml_RX5_82 : Cond.methodLink RX5 82 yJ13_bitCount_95d88 ∈ wT := wT_of ⟨List.mem_of_getElem? (i := 290) (by decide +kernel), by decide +kernel⟩
set_option maxRecDepth 100000 in
theorem ml_RX5_91 : Cond.methodLink RX5 91 yX1_hasTriangle ∈ wT := wT_of ⟨List.mem_of_getElem? (i := 300) (by decide +kernel), by decide +kernel⟩
set_option maxRecDepth 100000 in
theorem ml_RX5_96 : Cond.methodLink RX5 96 yX1_holds ∈ wT := wT_of ⟨List.mem_of_getElem? (i := 305) (by decide +kernel), by decide +kernel⟩
set_option maxRecDepth 100000 in
theorem ml_RX5_99 : Cond.methodLink RX5 99 yX1_change ∈ wT := wT_of ⟨List.mem_of_getElem? (i := 309) (by decide +kernel), by decide +kernel⟩
set_option maxRecDepth 100000 in
theorem ml_RX6_104 : Cond.methodLink RX6 104 yX6_common ∈ wT := wT_of ⟨List.mem_of_getElem? (i := 783) (by decide +kernel), by decide +kernel⟩
set_option maxRecDepth 100000 in
theorem ml_RX6_108 : Cond.methodLink RX6 108 yX6_isUp ∈ wT := wT_of ⟨List.mem_of_getElem? (i := 798) (by decide +kernel), by decide +kernel⟩
set_option maxRecDepth 100000 in
theorem ml_RX6_113 : Cond.methodLink RX6 113 yX6_isDown ∈ wT := wT_of ⟨List.mem_of_getElem? (i := 803) (by decide +kernel), by decide +kernel⟩
set_option maxRecDepth 100000 in
theorem ml_RX6_116 : Cond.methodLink RX6 116 yX6_then ∈ wT := wT_of ⟨List.mem_of_getElem? (i := 794) (by decide +kernel), by decide +kernel⟩
set_option maxRecDepth 100000 in
theorem ml_RX6_120 : Cond.methodLink RX6 120 yX6_layWays ∈ wT := wT_of ⟨List.mem_of_getElem? (i := 790) (by decide +kernel), by decide +kernel⟩
set_option maxRecDepth 100000 in
theorem ml_RX6_123 : Cond.methodLink RX6 123 yX6_isCell ∈ wT := wT_of ⟨List.mem_of_getElem? (i := 811) (by decide +kernel), by decide +kernel⟩
set_option maxRecDepth 100000 in
theorem ml_RX6_130 : Cond.methodLink RX6 130 yX6_layCome ∈ wT := wT_of ⟨List.mem_of_getElem? (i := 817) (by decide +kernel), by decide +kernel⟩
set_option maxRecDepth 100000 in
theorem ml_RX6_133 : Cond.methodLink RX6 133 yX6_withKind ∈ wT := wT_of ⟨List.mem_of_getElem? (i := 821) (by decide +kernel), by decide +kernel⟩
set_option maxRecDepth 100000 in
theorem ml_RX6_137 : Cond.methodLink RX6 137 yX6_kindsOf ∈ wT := wT_of ⟨List.mem_of_getElem? (i := 829) (by decide +kernel), by decide +kernel⟩
set_option maxRecDepth 100000 in
theorem ml_RX6_141 : Cond.methodLink RX6 141 yX6_worth ∈ wT := wT_of ⟨List.mem_of_getElem? (i := 845) (by decide +kernel), by decide +kernel⟩
set_option maxRecDepth 100000 in
theorem ml_RX6_145 : Cond.methodLink RX6 145 yX6_layBest ∈ wT := wT_of ⟨List.mem_of_getElem? (i := 841) (by decide +kernel), by decide +kernel⟩
set_option maxRecDepth 100000 in
theorem ml_RX6_155 : Cond.methodLink RX6 155 yX6_isSlot ∈ wT := wT_of ⟨List.mem_of_getElem? (i := 863) (by decide +kernel), by decide +kernel⟩
set_option maxRecDepth 100000 in
theorem ml_RX6_159 : Cond.methodLink RX6 159 yX6_isBest ∈ wT := wT_of ⟨List.mem_of_getElem? (i := 872) (by decide +kernel), by decide +kernel⟩
set_option maxRecDepth 100000 in
theorem ml_RX6_164 : Cond.methodLink RX6 164 yX6_isThere ∈ wT := wT_of ⟨List.mem_of_getElem? (i := 913) (by decide +kernel), by decide +kernel⟩
set_option maxRecDepth 100000 in
theorem ml_RX6_168 : Cond.methodLink RX6 168 yX6_isInner ∈ wT := wT_of ⟨List.mem_of_getElem? (i := 909) (by decide +kernel), by decide +kernel⟩
set_option maxRecDepth 100000 in
theorem ml_RX6_172 : Cond.methodLink RX6 172 yX6_isPoint ∈ wT := wT_of ⟨List.mem_of_getElem? (i := 901) (by decide +kernel), by decide +kernel⟩
set_option maxRecDepth 100000 in
theorem ml_RX6_175 : Cond.methodLink RX6 175 yX6_pointOf ∈ wT := wT_of ⟨List.mem_of_getElem? (i := 905) (by decide +kernel), by decide +kernel⟩
set_option maxRecDepth 100000 in
theorem ml_RX6_178 : Cond.methodLink RX6 178 yX6_turnOver ∈ wT := wT_of ⟨List.mem_of_getElem? (i := 925) (by decide +kernel), by decide +kernel⟩
set_option maxRecDepth 100000 in
theorem ml_RX6_182 : Cond.methodLink RX6 182 yX6_crossed ∈ wT := wT_of ⟨List.mem_of_getElem? (i := 941) (by decide +kernel), by decide +kernel⟩
set_option maxRecDepth 100000 in
theorem ml_RX6_186 : Cond.methodLink RX6 186 yX6_step ∈ wT := wT_of ⟨List.mem_of_getElem? (i := 945) (by decide +kernel), by decide +kernel⟩
set_option maxRecDepth 100000 in
theorem ml_RX6_189 : Cond.methodLink RX6 189 yX6_stepCell ∈ wT := wT_of ⟨List.mem_of_getElem? (i := 937) (by decide +kernel), by decide +kernel⟩
set_option maxRecDepth 100000 in
theorem ml_RX6_193 : Cond.methodLink RX6 193 yX6_spread ∈ wT := wT_of ⟨List.mem_of_getElem? (i := 933) (by decide +kernel), by decide +kernel⟩
set_option maxRecDepth 100000 in
theorem ml_RX6_196 : Cond.methodLink RX6 196 yX6_packed ∈ wT := wT_of ⟨List.mem_of_getElem? (i := 961) (by decide +kernel), by decide +kernel⟩
set_option maxRecDepth 100000 in
theorem ml_RX6_208 : Cond.methodLink RX6 208 yX6_unpack ∈ wT := wT_of ⟨List.mem_of_getElem? (i := 972) (by decide +kernel), by decide +kernel⟩
set_option maxRecDepth 100000 in
theorem ml_RX6_211 : Cond.methodLink RX6 211 yX6_meet ∈ wT := wT_of ⟨List.mem_of_getElem? (i := 957) (by decide +kernel), by decide +kernel⟩
set_option maxRecDepth 100000 in
theorem ml_RX6_214 : Cond.methodLink RX6 214 yX6_meetAll ∈ wT := wT_of ⟨List.mem_of_getElem? (i := 968) (by decide +kernel), by decide +kernel⟩
set_option maxRecDepth 100000 in
theorem ml_RX6_218 : Cond.methodLink RX6 218 yX6_downOf ∈ wT := wT_of ⟨List.mem_of_getElem? (i := 993) (by decide +kernel), by decide +kernel⟩
set_option maxRecDepth 100000 in
theorem ml_RX6_222 : Cond.methodLink RX6 222 yX6_look ∈ wT := wT_of ⟨List.mem_of_getElem? (i := 989) (by decide +kernel), by decide +kernel⟩
set_option maxRecDepth 100000 in
theorem ml_RX6_225 : Cond.methodLink RX6 225 yX6_join ∈ wT := wT_of ⟨List.mem_of_getElem? (i := 997) (by decide +kernel), by decide +kernel⟩
set_option maxRecDepth 100000 in
theorem ml_RX6_229 : Cond.methodLink RX6 229 yX6_layMost ∈ wT := wT_of ⟨List.mem_of_getElem? (i := 985) (by decide +kernel), by decide +kernel⟩
set_option maxRecDepth 100000 in
theorem ml_RX6_232 : Cond.methodLink RX6 232 yX6_mostNow ∈ wT := wT_of ⟨List.mem_of_getElem? (i := 1001) (by decide +kernel), by decide +kernel⟩
set_option maxRecDepth 100000 in
theorem ml_RX6_235 : Cond.methodLink RX6 235 yX6_layBar ∈ wT := wT_of ⟨List.mem_of_getElem? (i := 1013) (by decide +kernel), by decide +kernel⟩
set_option maxRecDepth 100000 in
theorem ml_RX6_66 : Cond.methodLink RX6 66 yX6_layGround ∈ wT := wT_of ⟨List.mem_of_getElem? (i := 663) (by decide +kernel), by decide +kernel⟩
set_option maxRecDepth 100000 in
theorem ml_RX6_77 : Cond.methodLink RX6 77 yX6_empty ∈ wT := wT_of ⟨List.mem_of_getElem? (i := 667) (by decide +kernel), by decide +kernel⟩
set_option maxRecDepth 100000 in
theorem ml_RX6_80 : Cond.methodLink RX6 80 yX6_cells ∈ wT := wT_of ⟨List.mem_of_getElem? (i := 753) (by decide +kernel), by decide +kernel⟩
set_option maxRecDepth 100000 in
theorem ml_RX6_84 : Cond.methodLink RX6 84 yX6_in ∈ wT := wT_of ⟨List.mem_of_getElem? (i := 741) (by decide +kernel), by decide +kernel⟩
set_option maxRecDepth 100000 in
theorem ml_RX6_93 : Cond.methodLink RX6 93 yX6_isHexagon ∈ wT := wT_of ⟨List.mem_of_getElem? (i := 749) (by decide +kernel), by decide +kernel⟩
set_option maxRecDepth 100000 in
theorem ml_RX6_98 : Cond.methodLink RX6 98 yX6_count ∈ wT := wT_of ⟨List.mem_of_getElem? (i := 770) (by decide +kernel), by decide +kernel⟩
set_option maxRecDepth 100000 in
theorem pr_RX5_111 : Cond.fieldLink RX5 111 RX5 "PRIMES" "[I" ∈ wT := wT_of ⟨List.mem_of_getElem? (i := 330) (by decide +kernel), by decide +kernel⟩
set_option maxRecDepth 100000 in
theorem km_X0_layGreedily : KM yX0_layGreedily cX0_layGreedily 6 none 1 := ⟨wT_of ⟨List.mem_of_getElem? (i := 618) (by decide +kernel), by decide +kernel⟩, wT_of ⟨List.mem_of_getElem? (i := 42) (by decide +kernel), by decide +kernel⟩, by decide +kernel, by decide +kernel, by decide +kernel⟩
set_option maxRecDepth 100000 in
theorem kv_X0_layGreedily : KV yX0_layGreedily 0 := ⟨wT_of ⟨List.mem_of_getElem? (i := 616) (by decide +kernel), by decide +kernel⟩, wT_of ⟨List.mem_of_getElem? (i := 617) (by decide +kernel), by decide +kernel⟩, by decide⟩
abbrev rm_X0_layGreedily : Room := { frames := 0, cells := 0, slots := 0, locals := 0 }
set_option maxRecDepth 100000 in
theorem km_X0_downsBeside : KM yX0_downsBeside cX0_downsBeside 3 (some .long) 2 := ⟨wT_of ⟨List.mem_of_getElem? (i := 626) (by decide +kernel), by decide +kernel⟩, wT_of ⟨List.mem_of_getElem? (i := 42) (by decide +kernel), by decide +kernel⟩, by decide +kernel, by decide +kernel, by decide +kernel⟩
set_option maxRecDepth 100000 in
theorem ks_X0_downsBeside : Cond.static yX0_downsBeside ∈ wT := wT_of ⟨List.mem_of_getElem? (i := 625) (by decide +kernel), by decide +kernel⟩
abbrev rm_X0_downsBeside : Room := { frames := 0, cells := 0, slots := 0, locals := 0 }
set_option maxRecDepth 100000 in
theorem km_X0_mates : KM yX0_mates cX0_mates 4 (some .long) 2 := ⟨wT_of ⟨List.mem_of_getElem? (i := 630) (by decide +kernel), by decide +kernel⟩, wT_of ⟨List.mem_of_getElem? (i := 42) (by decide +kernel), by decide +kernel⟩, by decide +kernel, by decide +kernel, by decide +kernel⟩
set_option maxRecDepth 100000 in
theorem kv_X0_mates : KV yX0_mates 0 := ⟨wT_of ⟨List.mem_of_getElem? (i := 628) (by decide +kernel), by decide +kernel⟩, wT_of ⟨List.mem_of_getElem? (i := 629) (by decide +kernel), by decide +kernel⟩, by decide⟩
abbrev rm_X0_mates : Room := { frames := 0, cells := 0, slots := 0, locals := 0 }
set_option maxRecDepth 100000 in
theorem km_X0_search : KM yX0_search cX0_search 9 (some .int) 1 := ⟨wT_of ⟨List.mem_of_getElem? (i := 623) (by decide +kernel), by decide +kernel⟩, wT_of ⟨List.mem_of_getElem? (i := 42) (by decide +kernel), by decide +kernel⟩, by decide +kernel, by decide +kernel, by decide +kernel⟩
set_option maxRecDepth 100000 in
theorem kv_X0_search : KV yX0_search 0 := ⟨wT_of ⟨List.mem_of_getElem? (i := 621) (by decide +kernel), by decide +kernel⟩, wT_of ⟨List.mem_of_getElem? (i := 622) (by decide +kernel), by decide +kernel⟩, by decide⟩
abbrev rm_X0_search : Room := { frames := 1, cells := 0, slots := 0, locals := 23 }
set_option maxRecDepth 100000 in
theorem km_X0_mateOf : KM yX0_mateOf cX0_mateOf 4 (some .long) 2 := ⟨wT_of ⟨List.mem_of_getElem? (i := 638) (by decide +kernel), by decide +kernel⟩, wT_of ⟨List.mem_of_getElem? (i := 42) (by decide +kernel), by decide +kernel⟩, by decide +kernel, by decide +kernel, by decide +kernel⟩
set_option maxRecDepth 100000 in
theorem kv_X0_mateOf : KV yX0_mateOf 0 := ⟨wT_of ⟨List.mem_of_getElem? (i := 636) (by decide +kernel), by decide +kernel⟩, wT_of ⟨List.mem_of_getElem? (i := 637) (by decide +kernel), by decide +kernel⟩, by decide⟩
abbrev rm_X0_mateOf : Room := { frames := 0, cells := 0, slots := 0, locals := 0 }
set_option maxRecDepth 100000 in
theorem km_X2_put : KM yX2_put cX2_put 4 none 2 := ⟨wT_of ⟨List.mem_of_getElem? (i := 453) (by decide +kernel), by decide +kernel⟩, wT_of ⟨List.mem_of_getElem? (i := 43) (by decide +kernel), by decide +kernel⟩, by decide +kernel, by decide +kernel, by decide +kernel⟩
set_option maxRecDepth 100000 in
theorem kv_X2_put : KV yX2_put 2 := ⟨wT_of ⟨List.mem_of_getElem? (i := 451) (by decide +kernel), by decide +kernel⟩, wT_of ⟨List.mem_of_getElem? (i := 452) (by decide +kernel), by decide +kernel⟩, by decide⟩
abbrev rm_X2_put : Room := { frames := 0, cells := 0, slots := 0, locals := 0 }
set_option maxRecDepth 100000 in
theorem km_X0_shift : KM yX0_shift cX0_shift 13 none 2 := ⟨wT_of ⟨List.mem_of_getElem? (i := 634) (by decide +kernel), by decide +kernel⟩, wT_of ⟨List.mem_of_getElem? (i := 42) (by decide +kernel), by decide +kernel⟩, by decide +kernel, by decide +kernel, by decide +kernel⟩
set_option maxRecDepth 100000 in
theorem kv_X0_shift : KV yX0_shift 0 := ⟨wT_of ⟨List.mem_of_getElem? (i := 632) (by decide +kernel), by decide +kernel⟩, wT_of ⟨List.mem_of_getElem? (i := 633) (by decide +kernel), by decide +kernel⟩, by decide⟩
abbrev rm_X0_shift : Room := { frames := 1, cells := 0, slots := 0, locals := 23 }
set_option maxRecDepth 100000 in
theorem km_X0_solve : KM yX0_solve cX0_solve 4 none 1 := ⟨wT_of ⟨List.mem_of_getElem? (i := 614) (by decide +kernel), by decide +kernel⟩, wT_of ⟨List.mem_of_getElem? (i := 42) (by decide +kernel), by decide +kernel⟩, by decide +kernel, by decide +kernel, by decide +kernel⟩
set_option maxRecDepth 100000 in
theorem kv_X0_solve : KV yX0_solve 0 := ⟨wT_of ⟨List.mem_of_getElem? (i := 612) (by decide +kernel), by decide +kernel⟩, wT_of ⟨List.mem_of_getElem? (i := 613) (by decide +kernel), by decide +kernel⟩, by decide⟩
abbrev rm_X0_solve : Room := { frames := 2, cells := 0, slots := 0, locals := 55 }
set_option maxRecDepth 100000 in
theorem km_J13_bitCount_95d88 : KM yJ13_bitCount_95d88 cJ13_bitCount_95d88 2 (some .int) 1 := ⟨wT_of ⟨List.mem_of_getElem? (i := 292) (by decide +kernel), by decide +kernel⟩, wT_of ⟨List.mem_of_getElem? (i := 47) (by decide +kernel), by decide +kernel⟩, by decide +kernel, by decide +kernel, by decide +kernel⟩
set_option maxRecDepth 100000 in
theorem ks_J13_bitCount_95d88 : Cond.static yJ13_bitCount_95d88 ∈ wT := wT_of ⟨List.mem_of_getElem? (i := 291) (by decide +kernel), by decide +kernel⟩
abbrev rm_J13_bitCount_95d88 : Room := { frames := 0, cells := 0, slots := 0, locals := 0 }
set_option maxRecDepth 100000 in
theorem km_X0_joined : KM yX0_joined cX0_joined 1 (some .int) 0 := ⟨wT_of ⟨List.mem_of_getElem? (i := 643) (by decide +kernel), by decide +kernel⟩, wT_of ⟨List.mem_of_getElem? (i := 42) (by decide +kernel), by decide +kernel⟩, by decide +kernel, by decide +kernel, by decide +kernel⟩
set_option maxRecDepth 100000 in
theorem kv_X0_joined : KV yX0_joined 0 := ⟨wT_of ⟨List.mem_of_getElem? (i := 641) (by decide +kernel), by decide +kernel⟩, wT_of ⟨List.mem_of_getElem? (i := 642) (by decide +kernel), by decide +kernel⟩, by decide⟩
abbrev rm_X0_joined : Room := { frames := 1, cells := 0, slots := 0, locals := 21 }
set_option maxRecDepth 100000 in
theorem km_X1_pointBit : KM yX1_pointBit cX1_pointBit 3 (some .long) 2 := ⟨wT_of ⟨List.mem_of_getElem? (i := 216) (by decide +kernel), by decide +kernel⟩, wT_of ⟨List.mem_of_getElem? (i := 40) (by decide +kernel), by decide +kernel⟩, by decide +kernel, by decide +kernel, by decide +kernel⟩
set_option maxRecDepth 100000 in
theorem kv_X1_pointBit : KV yX1_pointBit 1 := ⟨wT_of ⟨List.mem_of_getElem? (i := 214) (by decide +kernel), by decide +kernel⟩, wT_of ⟨List.mem_of_getElem? (i := 215) (by decide +kernel), by decide +kernel⟩, by decide⟩
abbrev rm_X1_pointBit : Room := { frames := 0, cells := 0, slots := 0, locals := 0 }
set_option maxRecDepth 100000 in
theorem km_X1_findInner : KM yX1_findInner cX1_findInner 5 none 0 := ⟨wT_of ⟨List.mem_of_getElem? (i := 221) (by decide +kernel), by decide +kernel⟩, wT_of ⟨List.mem_of_getElem? (i := 40) (by decide +kernel), by decide +kernel⟩, by decide +kernel, by decide +kernel, by decide +kernel⟩
set_option maxRecDepth 100000 in
theorem kv_X1_findInner : KV yX1_findInner 1 := ⟨wT_of ⟨List.mem_of_getElem? (i := 219) (by decide +kernel), by decide +kernel⟩, wT_of ⟨List.mem_of_getElem? (i := 220) (by decide +kernel), by decide +kernel⟩, by decide⟩
abbrev rm_X1_findInner : Room := { frames := 0, cells := 0, slots := 0, locals := 0 }
set_option maxRecDepth 100000 in
theorem km_X1_shape : KM yX1_shape cX1_shape 5 none 2 := ⟨wT_of ⟨List.mem_of_getElem? (i := 212) (by decide +kernel), by decide +kernel⟩, wT_of ⟨List.mem_of_getElem? (i := 40) (by decide +kernel), by decide +kernel⟩, by decide +kernel, by decide +kernel, by decide +kernel⟩
set_option maxRecDepth 100000 in
theorem kv_X1_shape : KV yX1_shape 1 := ⟨wT_of ⟨List.mem_of_getElem? (i := 210) (by decide +kernel), by decide +kernel⟩, wT_of ⟨List.mem_of_getElem? (i := 211) (by decide +kernel), by decide +kernel⟩, by decide⟩
abbrev rm_X1_shape : Room := { frames := 1, cells := 0, slots := 0, locals := 24 }
set_option maxRecDepth 100000 in
theorem km_X1_shapeHexagon : KM yX1_shapeHexagon cX1_shapeHexagon 7 none 3 := ⟨wT_of ⟨List.mem_of_getElem? (i := 288) (by decide +kernel), by decide +kernel⟩, wT_of ⟨List.mem_of_getElem? (i := 40) (by decide +kernel), by decide +kernel⟩, by decide +kernel, by decide +kernel, by decide +kernel⟩
set_option maxRecDepth 100000 in
theorem kv_X1_shapeHexagon : KV yX1_shapeHexagon 1 := ⟨wT_of ⟨List.mem_of_getElem? (i := 286) (by decide +kernel), by decide +kernel⟩, wT_of ⟨List.mem_of_getElem? (i := 287) (by decide +kernel), by decide +kernel⟩, by decide⟩
abbrev rm_X1_shapeHexagon : Room := { frames := 2, cells := 0, slots := 0, locals := 48 }
set_option maxRecDepth 100000 in
theorem km_X1_hasTriangle : KM yX1_hasTriangle cX1_hasTriangle 2 (some .boolean) 1 := ⟨wT_of ⟨List.mem_of_getElem? (i := 303) (by decide +kernel), by decide +kernel⟩, wT_of ⟨List.mem_of_getElem? (i := 40) (by decide +kernel), by decide +kernel⟩, by decide +kernel, by decide +kernel, by decide +kernel⟩
set_option maxRecDepth 100000 in
theorem kv_X1_hasTriangle : KV yX1_hasTriangle 1 := ⟨wT_of ⟨List.mem_of_getElem? (i := 301) (by decide +kernel), by decide +kernel⟩, wT_of ⟨List.mem_of_getElem? (i := 302) (by decide +kernel), by decide +kernel⟩, by decide⟩
abbrev rm_X1_hasTriangle : Room := { frames := 0, cells := 0, slots := 0, locals := 0 }
set_option maxRecDepth 100000 in
theorem km_X1_hasCell : KM yX1_hasCell cX1_hasCell 2 (some .boolean) 1 := ⟨wT_of ⟨List.mem_of_getElem? (i := 377) (by decide +kernel), by decide +kernel⟩, wT_of ⟨List.mem_of_getElem? (i := 40) (by decide +kernel), by decide +kernel⟩, by decide +kernel, by decide +kernel, by decide +kernel⟩
set_option maxRecDepth 100000 in
theorem kv_X1_hasCell : KV yX1_hasCell 1 := ⟨wT_of ⟨List.mem_of_getElem? (i := 375) (by decide +kernel), by decide +kernel⟩, wT_of ⟨List.mem_of_getElem? (i := 376) (by decide +kernel), by decide +kernel⟩, by decide⟩
abbrev rm_X1_hasCell : Room := { frames := 0, cells := 0, slots := 0, locals := 0 }
set_option maxRecDepth 100000 in
theorem km_X1_hasPoint : KM yX1_hasPoint cX1_hasPoint 3 (some .boolean) 2 := ⟨wT_of ⟨List.mem_of_getElem? (i := 513) (by decide +kernel), by decide +kernel⟩, wT_of ⟨List.mem_of_getElem? (i := 40) (by decide +kernel), by decide +kernel⟩, by decide +kernel, by decide +kernel, by decide +kernel⟩
set_option maxRecDepth 100000 in
theorem kv_X1_hasPoint : KV yX1_hasPoint 1 := ⟨wT_of ⟨List.mem_of_getElem? (i := 511) (by decide +kernel), by decide +kernel⟩, wT_of ⟨List.mem_of_getElem? (i := 512) (by decide +kernel), by decide +kernel⟩, by decide⟩
abbrev rm_X1_hasPoint : Room := { frames := 0, cells := 0, slots := 0, locals := 0 }
set_option maxRecDepth 100000 in
theorem km_X1_holds : KM yX1_holds cX1_holds 4 (some .boolean) 1 := ⟨wT_of ⟨List.mem_of_getElem? (i := 308) (by decide +kernel), by decide +kernel⟩, wT_of ⟨List.mem_of_getElem? (i := 40) (by decide +kernel), by decide +kernel⟩, by decide +kernel, by decide +kernel, by decide +kernel⟩
set_option maxRecDepth 100000 in
theorem kv_X1_holds : KV yX1_holds 1 := ⟨wT_of ⟨List.mem_of_getElem? (i := 306) (by decide +kernel), by decide +kernel⟩, wT_of ⟨List.mem_of_getElem? (i := 307) (by decide +kernel), by decide +kernel⟩, by decide⟩
abbrev rm_X1_holds : Room := { frames := 0, cells := 0, slots := 0, locals := 0 }
set_option maxRecDepth 100000 in
theorem km_X1_change : KM yX1_change cX1_change 4 none 1 := ⟨wT_of ⟨List.mem_of_getElem? (i := 312) (by decide +kernel), by decide +kernel⟩, wT_of ⟨List.mem_of_getElem? (i := 40) (by decide +kernel), by decide +kernel⟩, by decide +kernel, by decide +kernel, by decide +kernel⟩
set_option maxRecDepth 100000 in
theorem kv_X1_change : KV yX1_change 1 := ⟨wT_of ⟨List.mem_of_getElem? (i := 310) (by decide +kernel), by decide +kernel⟩, wT_of ⟨List.mem_of_getElem? (i := 311) (by decide +kernel), by decide +kernel⟩, by decide⟩
abbrev rm_X1_change : Room := { frames := 1, cells := 0, slots := 0, locals := 24 }
set_option maxRecDepth 100000 in
theorem km_X1_across : KM yX1_across cX1_across 7 (some .long) 1 := ⟨wT_of ⟨List.mem_of_getElem? (i := 597) (by decide +kernel), by decide +kernel⟩, wT_of ⟨List.mem_of_getElem? (i := 40) (by decide +kernel), by decide +kernel⟩, by decide +kernel, by decide +kernel, by decide +kernel⟩
set_option maxRecDepth 100000 in
theorem kv_X1_across : KV yX1_across 1 := ⟨wT_of ⟨List.mem_of_getElem? (i := 595) (by decide +kernel), by decide +kernel⟩, wT_of ⟨List.mem_of_getElem? (i := 596) (by decide +kernel), by decide +kernel⟩, by decide⟩
abbrev rm_X1_across : Room := { frames := 1, cells := 0, slots := 0, locals := 22 }
set_option maxRecDepth 100000 in
theorem km_X1_isSymmetric : KM yX1_isSymmetric cX1_isSymmetric 1 (some .boolean) 0 := ⟨wT_of ⟨List.mem_of_getElem? (i := 593) (by decide +kernel), by decide +kernel⟩, wT_of ⟨List.mem_of_getElem? (i := 40) (by decide +kernel), by decide +kernel⟩, by decide +kernel, by decide +kernel, by decide +kernel⟩
set_option maxRecDepth 100000 in
theorem kv_X1_isSymmetric : KV yX1_isSymmetric 1 := ⟨wT_of ⟨List.mem_of_getElem? (i := 591) (by decide +kernel), by decide +kernel⟩, wT_of ⟨List.mem_of_getElem? (i := 592) (by decide +kernel), by decide +kernel⟩, by decide⟩
abbrev rm_X1_isSymmetric : Room := { frames := 2, cells := 0, slots := 0, locals := 48 }
set_option maxRecDepth 100000 in
theorem km_X2_clear : KM yX2_clear cX2_clear 1 none 0 := ⟨wT_of ⟨List.mem_of_getElem? (i := 272) (by decide +kernel), by decide +kernel⟩, wT_of ⟨List.mem_of_getElem? (i := 43) (by decide +kernel), by decide +kernel⟩, by decide +kernel, by decide +kernel, by decide +kernel⟩
set_option maxRecDepth 100000 in
theorem kv_X2_clear : KV yX2_clear 2 := ⟨wT_of ⟨List.mem_of_getElem? (i := 270) (by decide +kernel), by decide +kernel⟩, wT_of ⟨List.mem_of_getElem? (i := 271) (by decide +kernel), by decide +kernel⟩, by decide⟩
abbrev rm_X2_clear : Room := { frames := 0, cells := 0, slots := 0, locals := 0 }
set_option maxRecDepth 100000 in
theorem km_X2_take : KM yX2_take cX2_take 2 none 1 := ⟨wT_of ⟨List.mem_of_getElem? (i := 475) (by decide +kernel), by decide +kernel⟩, wT_of ⟨List.mem_of_getElem? (i := 43) (by decide +kernel), by decide +kernel⟩, by decide +kernel, by decide +kernel, by decide +kernel⟩
set_option maxRecDepth 100000 in
theorem kv_X2_take : KV yX2_take 2 := ⟨wT_of ⟨List.mem_of_getElem? (i := 473) (by decide +kernel), by decide +kernel⟩, wT_of ⟨List.mem_of_getElem? (i := 474) (by decide +kernel), by decide +kernel⟩, by decide⟩
abbrev rm_X2_take : Room := { frames := 0, cells := 0, slots := 0, locals := 0 }
set_option maxRecDepth 100000 in
theorem km_X2_cellsOf : KM yX2_cellsOf cX2_cellsOf 2 (some .long) 1 := ⟨wT_of ⟨List.mem_of_getElem? (i := 501) (by decide +kernel), by decide +kernel⟩, wT_of ⟨List.mem_of_getElem? (i := 43) (by decide +kernel), by decide +kernel⟩, by decide +kernel, by decide +kernel, by decide +kernel⟩
set_option maxRecDepth 100000 in
theorem kv_X2_cellsOf : KV yX2_cellsOf 2 := ⟨wT_of ⟨List.mem_of_getElem? (i := 499) (by decide +kernel), by decide +kernel⟩, wT_of ⟨List.mem_of_getElem? (i := 500) (by decide +kernel), by decide +kernel⟩, by decide⟩
abbrev rm_X2_cellsOf : Room := { frames := 0, cells := 0, slots := 0, locals := 0 }
set_option maxRecDepth 100000 in
theorem km_X2_kindAt : KM yX2_kindAt cX2_kindAt 2 (some .int) 1 := ⟨wT_of ⟨List.mem_of_getElem? (i := 488) (by decide +kernel), by decide +kernel⟩, wT_of ⟨List.mem_of_getElem? (i := 43) (by decide +kernel), by decide +kernel⟩, by decide +kernel, by decide +kernel, by decide +kernel⟩
set_option maxRecDepth 100000 in
theorem kv_X2_kindAt : KV yX2_kindAt 2 := ⟨wT_of ⟨List.mem_of_getElem? (i := 486) (by decide +kernel), by decide +kernel⟩, wT_of ⟨List.mem_of_getElem? (i := 487) (by decide +kernel), by decide +kernel⟩, by decide⟩
abbrev rm_X2_kindAt : Room := { frames := 0, cells := 0, slots := 0, locals := 0 }
set_option maxRecDepth 100000 in
theorem km_X2_isLike : KM yX2_isLike cX2_isLike 2 (some .boolean) 1 := ⟨wT_of ⟨List.mem_of_getElem? (i := 554) (by decide +kernel), by decide +kernel⟩, wT_of ⟨List.mem_of_getElem? (i := 43) (by decide +kernel), by decide +kernel⟩, by decide +kernel, by decide +kernel, by decide +kernel⟩
set_option maxRecDepth 100000 in
theorem kv_X2_isLike : KV yX2_isLike 2 := ⟨wT_of ⟨List.mem_of_getElem? (i := 552) (by decide +kernel), by decide +kernel⟩, wT_of ⟨List.mem_of_getElem? (i := 553) (by decide +kernel), by decide +kernel⟩, by decide⟩
abbrev rm_X2_isLike : Room := { frames := 0, cells := 0, slots := 0, locals := 0 }
set_option maxRecDepth 100000 in
theorem km_X2_alikeIn : KM yX2_alikeIn cX2_alikeIn 2 (some .long) 1 := ⟨wT_of ⟨List.mem_of_getElem? (i := 602) (by decide +kernel), by decide +kernel⟩, wT_of ⟨List.mem_of_getElem? (i := 43) (by decide +kernel), by decide +kernel⟩, by decide +kernel, by decide +kernel, by decide +kernel⟩
set_option maxRecDepth 100000 in
theorem kv_X2_alikeIn : KV yX2_alikeIn 2 := ⟨wT_of ⟨List.mem_of_getElem? (i := 600) (by decide +kernel), by decide +kernel⟩, wT_of ⟨List.mem_of_getElem? (i := 601) (by decide +kernel), by decide +kernel⟩, by decide⟩
abbrev rm_X2_alikeIn : Room := { frames := 0, cells := 0, slots := 0, locals := 0 }
set_option maxRecDepth 100000 in
theorem km_X2_lows : KM yX2_lows cX2_lows 2 (some .long) 1 := ⟨wT_of ⟨List.mem_of_getElem? (i := 518) (by decide +kernel), by decide +kernel⟩, wT_of ⟨List.mem_of_getElem? (i := 43) (by decide +kernel), by decide +kernel⟩, by decide +kernel, by decide +kernel, by decide +kernel⟩
set_option maxRecDepth 100000 in
theorem kv_X2_lows : KV yX2_lows 2 := ⟨wT_of ⟨List.mem_of_getElem? (i := 516) (by decide +kernel), by decide +kernel⟩, wT_of ⟨List.mem_of_getElem? (i := 517) (by decide +kernel), by decide +kernel⟩, by decide⟩
abbrev rm_X2_lows : Room := { frames := 0, cells := 0, slots := 0, locals := 0 }
set_option maxRecDepth 100000 in
theorem km_X2_highs : KM yX2_highs cX2_highs 2 (some .long) 1 := ⟨wT_of ⟨List.mem_of_getElem? (i := 522) (by decide +kernel), by decide +kernel⟩, wT_of ⟨List.mem_of_getElem? (i := 43) (by decide +kernel), by decide +kernel⟩, by decide +kernel, by decide +kernel, by decide +kernel⟩
set_option maxRecDepth 100000 in
theorem kv_X2_highs : KV yX2_highs 2 := ⟨wT_of ⟨List.mem_of_getElem? (i := 520) (by decide +kernel), by decide +kernel⟩, wT_of ⟨List.mem_of_getElem? (i := 521) (by decide +kernel), by decide +kernel⟩, by decide⟩
abbrev rm_X2_highs : Room := { frames := 0, cells := 0, slots := 0, locals := 0 }
set_option maxRecDepth 100000 in
theorem km_X2_flip : KM yX2_flip cX2_flip 4 none 2 := ⟨wT_of ⟨List.mem_of_getElem? (i := 534) (by decide +kernel), by decide +kernel⟩, wT_of ⟨List.mem_of_getElem? (i := 43) (by decide +kernel), by decide +kernel⟩, by decide +kernel, by decide +kernel, by decide +kernel⟩
set_option maxRecDepth 100000 in
theorem kv_X2_flip : KV yX2_flip 2 := ⟨wT_of ⟨List.mem_of_getElem? (i := 532) (by decide +kernel), by decide +kernel⟩, wT_of ⟨List.mem_of_getElem? (i := 533) (by decide +kernel), by decide +kernel⟩, by decide⟩
abbrev rm_X2_flip : Room := { frames := 0, cells := 0, slots := 0, locals := 0 }
set_option maxRecDepth 100000 in
theorem km_J7_fill_53178 : KM yJ7_fill_53178 cJ7_fill_53178 4 none 2 := ⟨wT_of ⟨List.mem_of_getElem? (i := 264) (by decide +kernel), by decide +kernel⟩, wT_of ⟨List.mem_of_getElem? (i := 46) (by decide +kernel), by decide +kernel⟩, by decide +kernel, by decide +kernel, by decide +kernel⟩
set_option maxRecDepth 100000 in
theorem ks_J7_fill_53178 : Cond.static yJ7_fill_53178 ∈ wT := wT_of ⟨List.mem_of_getElem? (i := 263) (by decide +kernel), by decide +kernel⟩
abbrev rm_J7_fill_53178 : Room := { frames := 0, cells := 0, slots := 0, locals := 0 }
set_option maxRecDepth 100000 in
theorem km_X3_openAfter : KM yX3_openAfter cX3_openAfter 8 (some .int) 4 := ⟨wT_of ⟨List.mem_of_getElem? (i := 353) (by decide +kernel), by decide +kernel⟩, wT_of ⟨List.mem_of_getElem? (i := 41) (by decide +kernel), by decide +kernel⟩, by decide +kernel, by decide +kernel, by decide +kernel⟩
set_option maxRecDepth 100000 in
theorem ks_X3_openAfter : Cond.static yX3_openAfter ∈ wT := wT_of ⟨List.mem_of_getElem? (i := 352) (by decide +kernel), by decide +kernel⟩
abbrev rm_X3_openAfter : Room := { frames := 0, cells := 0, slots := 0, locals := 0 }
set_option maxRecDepth 100000 in
theorem km_X3_nodeFor : KM yX3_nodeFor cX3_nodeFor 2 (some .int) 1 := ⟨wT_of ⟨List.mem_of_getElem? (i := 357) (by decide +kernel), by decide +kernel⟩, wT_of ⟨List.mem_of_getElem? (i := 41) (by decide +kernel), by decide +kernel⟩, by decide +kernel, by decide +kernel, by decide +kernel⟩
set_option maxRecDepth 100000 in
theorem kv_X3_nodeFor : KV yX3_nodeFor 3 := ⟨wT_of ⟨List.mem_of_getElem? (i := 355) (by decide +kernel), by decide +kernel⟩, wT_of ⟨List.mem_of_getElem? (i := 356) (by decide +kernel), by decide +kernel⟩, by decide⟩
abbrev rm_X3_nodeFor : Room := { frames := 0, cells := 0, slots := 0, locals := 0 }
set_option maxRecDepth 100000 in
theorem km_X3_countOnward : KM yX3_countOnward cX3_countOnward 7 none 1 := ⟨wT_of ⟨List.mem_of_getElem? (i := 361) (by decide +kernel), by decide +kernel⟩, wT_of ⟨List.mem_of_getElem? (i := 41) (by decide +kernel), by decide +kernel⟩, by decide +kernel, by decide +kernel, by decide +kernel⟩
set_option maxRecDepth 100000 in
theorem kv_X3_countOnward : KV yX3_countOnward 3 := ⟨wT_of ⟨List.mem_of_getElem? (i := 359) (by decide +kernel), by decide +kernel⟩, wT_of ⟨List.mem_of_getElem? (i := 360) (by decide +kernel), by decide +kernel⟩, by decide⟩
abbrev rm_X3_countOnward : Room := { frames := 0, cells := 0, slots := 0, locals := 0 }
set_option maxRecDepth 100000 in
theorem km_X3_countHither : KM yX3_countHither cX3_countHither 5 none 1 := ⟨wT_of ⟨List.mem_of_getElem? (i := 365) (by decide +kernel), by decide +kernel⟩, wT_of ⟨List.mem_of_getElem? (i := 41) (by decide +kernel), by decide +kernel⟩, by decide +kernel, by decide +kernel, by decide +kernel⟩
set_option maxRecDepth 100000 in
theorem kv_X3_countHither : KV yX3_countHither 3 := ⟨wT_of ⟨List.mem_of_getElem? (i := 363) (by decide +kernel), by decide +kernel⟩, wT_of ⟨List.mem_of_getElem? (i := 364) (by decide +kernel), by decide +kernel⟩, by decide⟩
abbrev rm_X3_countHither : Room := { frames := 0, cells := 0, slots := 0, locals := 0 }
set_option maxRecDepth 100000 in
theorem km_X3_build : KM yX3_build cX3_build 5 none 1 := ⟨wT_of ⟨List.mem_of_getElem? (i := 349) (by decide +kernel), by decide +kernel⟩, wT_of ⟨List.mem_of_getElem? (i := 41) (by decide +kernel), by decide +kernel⟩, by decide +kernel, by decide +kernel, by decide +kernel⟩
set_option maxRecDepth 100000 in
theorem kv_X3_build : KV yX3_build 3 := ⟨wT_of ⟨List.mem_of_getElem? (i := 347) (by decide +kernel), by decide +kernel⟩, wT_of ⟨List.mem_of_getElem? (i := 348) (by decide +kernel), by decide +kernel⟩, by decide⟩
abbrev rm_X3_build : Room := { frames := 1, cells := 0, slots := 0, locals := 27 }
set_option maxRecDepth 100000 in
theorem km_X3_total : KM yX3_total cX3_total 1 (some .long) 0 := ⟨wT_of ⟨List.mem_of_getElem? (i := 369) (by decide +kernel), by decide +kernel⟩, wT_of ⟨List.mem_of_getElem? (i := 41) (by decide +kernel), by decide +kernel⟩, by decide +kernel, by decide +kernel, by decide +kernel⟩
set_option maxRecDepth 100000 in
theorem kv_X3_total : KV yX3_total 3 := ⟨wT_of ⟨List.mem_of_getElem? (i := 367) (by decide +kernel), by decide +kernel⟩, wT_of ⟨List.mem_of_getElem? (i := 368) (by decide +kernel), by decide +kernel⟩, by decide⟩
abbrev rm_X3_total : Room := { frames := 0, cells := 0, slots := 0, locals := 0 }
set_option maxRecDepth 100000 in
theorem km_X3_waysThrough : KM yX3_waysThrough cX3_waysThrough 8 (some .long) 3 := ⟨wT_of ⟨List.mem_of_getElem? (i := 385) (by decide +kernel), by decide +kernel⟩, wT_of ⟨List.mem_of_getElem? (i := 41) (by decide +kernel), by decide +kernel⟩, by decide +kernel, by decide +kernel, by decide +kernel⟩
set_option maxRecDepth 100000 in
theorem kv_X3_waysThrough : KV yX3_waysThrough 3 := ⟨wT_of ⟨List.mem_of_getElem? (i := 383) (by decide +kernel), by decide +kernel⟩, wT_of ⟨List.mem_of_getElem? (i := 384) (by decide +kernel), by decide +kernel⟩, by decide⟩
abbrev rm_X3_waysThrough : Room := { frames := 0, cells := 0, slots := 0, locals := 0 }
set_option maxRecDepth 100000 in
theorem km_X3_kindSet : KM yX3_kindSet cX3_kindSet 5 (some .int) 2 := ⟨wT_of ⟨List.mem_of_getElem? (i := 393) (by decide +kernel), by decide +kernel⟩, wT_of ⟨List.mem_of_getElem? (i := 41) (by decide +kernel), by decide +kernel⟩, by decide +kernel, by decide +kernel, by decide +kernel⟩
set_option maxRecDepth 100000 in
theorem kv_X3_kindSet : KV yX3_kindSet 3 := ⟨wT_of ⟨List.mem_of_getElem? (i := 391) (by decide +kernel), by decide +kernel⟩, wT_of ⟨List.mem_of_getElem? (i := 392) (by decide +kernel), by decide +kernel⟩, by decide⟩
abbrev rm_X3_kindSet : Room := { frames := 1, cells := 0, slots := 0, locals := 27 }
set_option maxRecDepth 100000 in
theorem km_X3_worthBy : KM yX3_worthBy cX3_worthBy 7 (some .int) 5 := ⟨wT_of ⟨List.mem_of_getElem? (i := 418) (by decide +kernel), by decide +kernel⟩, wT_of ⟨List.mem_of_getElem? (i := 41) (by decide +kernel), by decide +kernel⟩, by decide +kernel, by decide +kernel, by decide +kernel⟩
set_option maxRecDepth 100000 in
theorem kv_X3_worthBy : KV yX3_worthBy 3 := ⟨wT_of ⟨List.mem_of_getElem? (i := 416) (by decide +kernel), by decide +kernel⟩, wT_of ⟨List.mem_of_getElem? (i := 417) (by decide +kernel), by decide +kernel⟩, by decide⟩
abbrev rm_X3_worthBy : Room := { frames := 0, cells := 0, slots := 0, locals := 0 }
set_option maxRecDepth 100000 in
theorem km_X3_rank : KM yX3_rank cX3_rank 7 (some .int) 2 := ⟨wT_of ⟨List.mem_of_getElem? (i := 413) (by decide +kernel), by decide +kernel⟩, wT_of ⟨List.mem_of_getElem? (i := 41) (by decide +kernel), by decide +kernel⟩, by decide +kernel, by decide +kernel, by decide +kernel⟩
set_option maxRecDepth 100000 in
theorem kv_X3_rank : KV yX3_rank 3 := ⟨wT_of ⟨List.mem_of_getElem? (i := 411) (by decide +kernel), by decide +kernel⟩, wT_of ⟨List.mem_of_getElem? (i := 412) (by decide +kernel), by decide +kernel⟩, by decide⟩
abbrev rm_X3_rank : Room := { frames := 1, cells := 0, slots := 0, locals := 26 }
set_option maxRecDepth 100000 in
theorem km_X3_onwardBy : KM yX3_onwardBy cX3_onwardBy 4 (some .long) 2 := ⟨wT_of ⟨List.mem_of_getElem? (i := 445) (by decide +kernel), by decide +kernel⟩, wT_of ⟨List.mem_of_getElem? (i := 41) (by decide +kernel), by decide +kernel⟩, by decide +kernel, by decide +kernel, by decide +kernel⟩
set_option maxRecDepth 100000 in
theorem kv_X3_onwardBy : KV yX3_onwardBy 3 := ⟨wT_of ⟨List.mem_of_getElem? (i := 443) (by decide +kernel), by decide +kernel⟩, wT_of ⟨List.mem_of_getElem? (i := 444) (by decide +kernel), by decide +kernel⟩, by decide⟩
abbrev rm_X3_onwardBy : Room := { frames := 0, cells := 0, slots := 0, locals := 0 }
set_option maxRecDepth 100000 in
theorem km_X3_step : KM yX3_step cX3_step 6 (some .int) 5 := ⟨wT_of ⟨List.mem_of_getElem? (i := 449) (by decide +kernel), by decide +kernel⟩, wT_of ⟨List.mem_of_getElem? (i := 41) (by decide +kernel), by decide +kernel⟩, by decide +kernel, by decide +kernel, by decide +kernel⟩
set_option maxRecDepth 100000 in
theorem kv_X3_step : KV yX3_step 3 := ⟨wT_of ⟨List.mem_of_getElem? (i := 447) (by decide +kernel), by decide +kernel⟩, wT_of ⟨List.mem_of_getElem? (i := 448) (by decide +kernel), by decide +kernel⟩, by decide⟩
abbrev rm_X3_step : Room := { frames := 1, cells := 0, slots := 0, locals := 23 }
set_option maxRecDepth 100000 in
theorem km_X3_walkTo : KM yX3_walkTo cX3_walkTo 10 none 3 := ⟨wT_of ⟨List.mem_of_getElem? (i := 440) (by decide +kernel), by decide +kernel⟩, wT_of ⟨List.mem_of_getElem? (i := 41) (by decide +kernel), by decide +kernel⟩, by decide +kernel, by decide +kernel, by decide +kernel⟩
set_option maxRecDepth 100000 in
theorem kv_X3_walkTo : KV yX3_walkTo 3 := ⟨wT_of ⟨List.mem_of_getElem? (i := 438) (by decide +kernel), by decide +kernel⟩, wT_of ⟨List.mem_of_getElem? (i := 439) (by decide +kernel), by decide +kernel⟩, by decide⟩
abbrev rm_X3_walkTo : Room := { frames := 2, cells := 0, slots := 0, locals := 48 }
set_option maxRecDepth 100000 in
theorem km_X3_isBest : KM yX3_isBest cX3_isBest 6 (some .boolean) 5 := ⟨wT_of ⟨List.mem_of_getElem? (i := 467) (by decide +kernel), by decide +kernel⟩, wT_of ⟨List.mem_of_getElem? (i := 41) (by decide +kernel), by decide +kernel⟩, by decide +kernel, by decide +kernel, by decide +kernel⟩
set_option maxRecDepth 100000 in
theorem kv_X3_isBest : KV yX3_isBest 3 := ⟨wT_of ⟨List.mem_of_getElem? (i := 465) (by decide +kernel), by decide +kernel⟩, wT_of ⟨List.mem_of_getElem? (i := 466) (by decide +kernel), by decide +kernel⟩, by decide⟩
abbrev rm_X3_isBest : Room := { frames := 1, cells := 0, slots := 0, locals := 26 }
set_option maxRecDepth 100000 in
theorem km_X3_walkDearest : KM yX3_walkDearest cX3_walkDearest 7 none 3 := ⟨wT_of ⟨List.mem_of_getElem? (i := 463) (by decide +kernel), by decide +kernel⟩, wT_of ⟨List.mem_of_getElem? (i := 41) (by decide +kernel), by decide +kernel⟩, by decide +kernel, by decide +kernel, by decide +kernel⟩
set_option maxRecDepth 100000 in
theorem kv_X3_walkDearest : KV yX3_walkDearest 3 := ⟨wT_of ⟨List.mem_of_getElem? (i := 461) (by decide +kernel), by decide +kernel⟩, wT_of ⟨List.mem_of_getElem? (i := 462) (by decide +kernel), by decide +kernel⟩, by decide⟩
abbrev rm_X3_walkDearest : Room := { frames := 2, cells := 0, slots := 0, locals := 51 }
set_option maxRecDepth 100000 in
theorem km_X3_waysAhead : KM yX3_waysAhead cX3_waysAhead 9 (some .long) 2 := ⟨wT_of ⟨List.mem_of_getElem? (i := 484) (by decide +kernel), by decide +kernel⟩, wT_of ⟨List.mem_of_getElem? (i := 41) (by decide +kernel), by decide +kernel⟩, by decide +kernel, by decide +kernel, by decide +kernel⟩
set_option maxRecDepth 100000 in
theorem kv_X3_waysAhead : KV yX3_waysAhead 3 := ⟨wT_of ⟨List.mem_of_getElem? (i := 482) (by decide +kernel), by decide +kernel⟩, wT_of ⟨List.mem_of_getElem? (i := 483) (by decide +kernel), by decide +kernel⟩, by decide⟩
abbrev rm_X3_waysAhead : Room := { frames := 1, cells := 0, slots := 0, locals := 23 }
set_option maxRecDepth 100000 in
theorem km_X4_forget : KM yX4_forget cX4_forget 1 none 0 := ⟨wT_of ⟨List.mem_of_getElem? (i := 276) (by decide +kernel), by decide +kernel⟩, wT_of ⟨List.mem_of_getElem? (i := 44) (by decide +kernel), by decide +kernel⟩, by decide +kernel, by decide +kernel, by decide +kernel⟩
set_option maxRecDepth 100000 in
theorem kv_X4_forget : KV yX4_forget 4 := ⟨wT_of ⟨List.mem_of_getElem? (i := 274) (by decide +kernel), by decide +kernel⟩, wT_of ⟨List.mem_of_getElem? (i := 275) (by decide +kernel), by decide +kernel⟩, by decide⟩
abbrev rm_X4_forget : Room := { frames := 1, cells := 0, slots := 0, locals := 20 }
set_option maxRecDepth 100000 in
theorem km_X4_toEnd : KM yX4_toEnd cX4_toEnd 8 (some .int) 3 := ⟨wT_of ⟨List.mem_of_getElem? (i := 565) (by decide +kernel), by decide +kernel⟩, wT_of ⟨List.mem_of_getElem? (i := 44) (by decide +kernel), by decide +kernel⟩, by decide +kernel, by decide +kernel, by decide +kernel⟩
set_option maxRecDepth 100000 in
theorem kv_X4_toEnd : KV yX4_toEnd 4 := ⟨wT_of ⟨List.mem_of_getElem? (i := 563) (by decide +kernel), by decide +kernel⟩, wT_of ⟨List.mem_of_getElem? (i := 564) (by decide +kernel), by decide +kernel⟩, by decide⟩
abbrev rm_X4_toEnd : Room := { frames := 1, cells := 0, slots := 0, locals := 23 }
set_option maxRecDepth 100000 in
theorem km_X4_sinkTallied : KM yX4_sinkTallied cX4_sinkTallied 8 none 3 := ⟨wT_of ⟨List.mem_of_getElem? (i := 548) (by decide +kernel), by decide +kernel⟩, wT_of ⟨List.mem_of_getElem? (i := 44) (by decide +kernel), by decide +kernel⟩, by decide +kernel, by decide +kernel, by decide +kernel⟩
set_option maxRecDepth 100000 in
theorem kv_X4_sinkTallied : KV yX4_sinkTallied 4 := ⟨wT_of ⟨List.mem_of_getElem? (i := 546) (by decide +kernel), by decide +kernel⟩, wT_of ⟨List.mem_of_getElem? (i := 547) (by decide +kernel), by decide +kernel⟩, by decide⟩
abbrev rm_X4_sinkTallied : Room := { frames := 1, cells := 0, slots := 0, locals := 23 }
set_option maxRecDepth 100000 in
theorem km_X4_between : KM yX4_between cX4_between 6 (some .int) 3 := ⟨wT_of ⟨List.mem_of_getElem? (i := 542) (by decide +kernel), by decide +kernel⟩, wT_of ⟨List.mem_of_getElem? (i := 44) (by decide +kernel), by decide +kernel⟩, by decide +kernel, by decide +kernel, by decide +kernel⟩
set_option maxRecDepth 100000 in
theorem kv_X4_between : KV yX4_between 4 := ⟨wT_of ⟨List.mem_of_getElem? (i := 540) (by decide +kernel), by decide +kernel⟩, wT_of ⟨List.mem_of_getElem? (i := 541) (by decide +kernel), by decide +kernel⟩, by decide⟩
abbrev rm_X4_between : Room := { frames := 2, cells := 0, slots := 0, locals := 50 }
set_option maxRecDepth 100000 in
theorem km_X4_firstBranch : KM yX4_firstBranch cX4_firstBranch 12 (some .long) 3 := ⟨wT_of ⟨List.mem_of_getElem? (i := 584) (by decide +kernel), by decide +kernel⟩, wT_of ⟨List.mem_of_getElem? (i := 44) (by decide +kernel), by decide +kernel⟩, by decide +kernel, by decide +kernel, by decide +kernel⟩
set_option maxRecDepth 100000 in
theorem ks_X4_firstBranch : Cond.static yX4_firstBranch ∈ wT := wT_of ⟨List.mem_of_getElem? (i := 583) (by decide +kernel), by decide +kernel⟩
abbrev rm_X4_firstBranch : Room := { frames := 0, cells := 0, slots := 0, locals := 0 }
set_option maxRecDepth 100000 in
theorem km_X4_countFrom : KM yX4_countFrom cX4_countFrom 13 (some .int) 2 := ⟨wT_of ⟨List.mem_of_getElem? (i := 580) (by decide +kernel), by decide +kernel⟩, wT_of ⟨List.mem_of_getElem? (i := 44) (by decide +kernel), by decide +kernel⟩, by decide +kernel, by decide +kernel, by decide +kernel⟩
set_option maxRecDepth 100000 in
theorem kv_X4_countFrom : KV yX4_countFrom 4 := ⟨wT_of ⟨List.mem_of_getElem? (i := 578) (by decide +kernel), by decide +kernel⟩, wT_of ⟨List.mem_of_getElem? (i := 579) (by decide +kernel), by decide +kernel⟩, by decide⟩
abbrev rm_X4_countFrom : Room := { frames := 1, cells := 0, slots := 0, locals := 31 }
set_option maxRecDepth 100000 in
theorem km_X4_family : KM yX4_family cX4_family 4 (some .int) 3 := ⟨wT_of ⟨List.mem_of_getElem? (i := 575) (by decide +kernel), by decide +kernel⟩, wT_of ⟨List.mem_of_getElem? (i := 44) (by decide +kernel), by decide +kernel⟩, by decide +kernel, by decide +kernel, by decide +kernel⟩
set_option maxRecDepth 100000 in
theorem kv_X4_family : KV yX4_family 4 := ⟨wT_of ⟨List.mem_of_getElem? (i := 573) (by decide +kernel), by decide +kernel⟩, wT_of ⟨List.mem_of_getElem? (i := 574) (by decide +kernel), by decide +kernel⟩, by decide⟩
abbrev rm_X4_family : Room := { frames := 2, cells := 0, slots := 0, locals := 63 }
set_option maxRecDepth 100000 in
theorem km_X5_forgetWeights : KM yX5_forgetWeights cX5_forgetWeights 1 none 0 := ⟨wT_of ⟨List.mem_of_getElem? (i := 261) (by decide +kernel), by decide +kernel⟩, wT_of ⟨List.mem_of_getElem? (i := 39) (by decide +kernel), by decide +kernel⟩, by decide +kernel, by decide +kernel, by decide +kernel⟩
set_option maxRecDepth 100000 in
theorem kv_X5_forgetWeights : KV yX5_forgetWeights 5 := ⟨wT_of ⟨List.mem_of_getElem? (i := 260) (by decide +kernel), by decide +kernel⟩, wT_of ⟨List.mem_of_getElem? (i := 0) (by decide +kernel), by decide +kernel⟩, by decide⟩
abbrev rm_X5_forgetWeights : Room := { frames := 1, cells := 0, slots := 0, locals := 23 }
set_option maxRecDepth 100000 in
theorem km_X5_forgetGround : KM yX5_forgetGround cX5_forgetGround 2 none 0 := ⟨wT_of ⟨List.mem_of_getElem? (i := 268) (by decide +kernel), by decide +kernel⟩, wT_of ⟨List.mem_of_getElem? (i := 39) (by decide +kernel), by decide +kernel⟩, by decide +kernel, by decide +kernel, by decide +kernel⟩
set_option maxRecDepth 100000 in
theorem kv_X5_forgetGround : KV yX5_forgetGround 5 := ⟨wT_of ⟨List.mem_of_getElem? (i := 267) (by decide +kernel), by decide +kernel⟩, wT_of ⟨List.mem_of_getElem? (i := 1) (by decide +kernel), by decide +kernel⟩, by decide⟩
abbrev rm_X5_forgetGround : Room := { frames := 2, cells := 0, slots := 0, locals := 40 }
set_option maxRecDepth 100000 in
theorem km_X5_ground : KM yX5_ground cX5_ground 3 (some .int) 2 := ⟨wT_of ⟨List.mem_of_getElem? (i := 256) (by decide +kernel), by decide +kernel⟩, wT_of ⟨List.mem_of_getElem? (i := 39) (by decide +kernel), by decide +kernel⟩, by decide +kernel, by decide +kernel, by decide +kernel⟩
set_option maxRecDepth 100000 in
theorem kv_X5_ground : KV yX5_ground 5 := ⟨wT_of ⟨List.mem_of_getElem? (i := 254) (by decide +kernel), by decide +kernel⟩, wT_of ⟨List.mem_of_getElem? (i := 255) (by decide +kernel), by decide +kernel⟩, by decide⟩
abbrev rm_X5_ground : Room := { frames := 3, cells := 0, slots := 0, locals := 61 }
set_option maxRecDepth 100000 in
theorem km_X5_hexagonFits : KM yX5_hexagonFits cX5_hexagonFits 4 (some .boolean) 3 := ⟨wT_of ⟨List.mem_of_getElem? (i := 284) (by decide +kernel), by decide +kernel⟩, wT_of ⟨List.mem_of_getElem? (i := 39) (by decide +kernel), by decide +kernel⟩, by decide +kernel, by decide +kernel, by decide +kernel⟩
set_option maxRecDepth 100000 in
theorem ks_X5_hexagonFits : Cond.static yX5_hexagonFits ∈ wT := wT_of ⟨List.mem_of_getElem? (i := 283) (by decide +kernel), by decide +kernel⟩
abbrev rm_X5_hexagonFits : Room := { frames := 0, cells := 0, slots := 0, locals := 0 }
set_option maxRecDepth 100000 in
theorem km_X5_hexagon : KM yX5_hexagon cX5_hexagon 4 (some .int) 3 := ⟨wT_of ⟨List.mem_of_getElem? (i := 281) (by decide +kernel), by decide +kernel⟩, wT_of ⟨List.mem_of_getElem? (i := 39) (by decide +kernel), by decide +kernel⟩, by decide +kernel, by decide +kernel, by decide +kernel⟩
set_option maxRecDepth 100000 in
theorem kv_X5_hexagon : KV yX5_hexagon 5 := ⟨wT_of ⟨List.mem_of_getElem? (i := 279) (by decide +kernel), by decide +kernel⟩, wT_of ⟨List.mem_of_getElem? (i := 280) (by decide +kernel), by decide +kernel⟩, by decide⟩
abbrev rm_X5_hexagon : Room := { frames := 3, cells := 0, slots := 0, locals := 74 }
set_option maxRecDepth 100000 in
theorem km_X5_set : KM yX5_set cX5_set 4 (some .int) 2 := ⟨wT_of ⟨List.mem_of_getElem? (i := 299) (by decide +kernel), by decide +kernel⟩, wT_of ⟨List.mem_of_getElem? (i := 39) (by decide +kernel), by decide +kernel⟩, by decide +kernel, by decide +kernel, by decide +kernel⟩
set_option maxRecDepth 100000 in
theorem kv_X5_set : KV yX5_set 5 := ⟨wT_of ⟨List.mem_of_getElem? (i := 297) (by decide +kernel), by decide +kernel⟩, wT_of ⟨List.mem_of_getElem? (i := 298) (by decide +kernel), by decide +kernel⟩, by decide⟩
abbrev rm_X5_set : Room := { frames := 3, cells := 0, slots := 0, locals := 61 }
set_option maxRecDepth 100000 in
theorem km_X5_isIn : KM yX5_isIn cX5_isIn 2 (some .int) 1 := ⟨wT_of ⟨List.mem_of_getElem? (i := 316) (by decide +kernel), by decide +kernel⟩, wT_of ⟨List.mem_of_getElem? (i := 39) (by decide +kernel), by decide +kernel⟩, by decide +kernel, by decide +kernel, by decide +kernel⟩
set_option maxRecDepth 100000 in
theorem kv_X5_isIn : KV yX5_isIn 5 := ⟨wT_of ⟨List.mem_of_getElem? (i := 314) (by decide +kernel), by decide +kernel⟩, wT_of ⟨List.mem_of_getElem? (i := 315) (by decide +kernel), by decide +kernel⟩, by decide⟩
abbrev rm_X5_isIn : Room := { frames := 1, cells := 0, slots := 0, locals := 23 }
set_option maxRecDepth 100000 in
theorem km_X5_ups : KM yX5_ups cX5_ups 2 (some .int) 1 := ⟨wT_of ⟨List.mem_of_getElem? (i := 320) (by decide +kernel), by decide +kernel⟩, wT_of ⟨List.mem_of_getElem? (i := 39) (by decide +kernel), by decide +kernel⟩, by decide +kernel, by decide +kernel, by decide +kernel⟩
set_option maxRecDepth 100000 in
theorem kv_X5_ups : KV yX5_ups 5 := ⟨wT_of ⟨List.mem_of_getElem? (i := 318) (by decide +kernel), by decide +kernel⟩, wT_of ⟨List.mem_of_getElem? (i := 319) (by decide +kernel), by decide +kernel⟩, by decide⟩
abbrev rm_X5_ups : Room := { frames := 1, cells := 0, slots := 0, locals := 21 }
set_option maxRecDepth 100000 in
theorem km_X5_size : KM yX5_size cX5_size 2 (some .int) 1 := ⟨wT_of ⟨List.mem_of_getElem? (i := 324) (by decide +kernel), by decide +kernel⟩, wT_of ⟨List.mem_of_getElem? (i := 39) (by decide +kernel), by decide +kernel⟩, by decide +kernel, by decide +kernel, by decide +kernel⟩
set_option maxRecDepth 100000 in
theorem kv_X5_size : KV yX5_size 5 := ⟨wT_of ⟨List.mem_of_getElem? (i := 322) (by decide +kernel), by decide +kernel⟩, wT_of ⟨List.mem_of_getElem? (i := 323) (by decide +kernel), by decide +kernel⟩, by decide⟩
abbrev rm_X5_size : Room := { frames := 0, cells := 0, slots := 0, locals := 0 }
set_option maxRecDepth 100000 in
theorem km_X5_powerIn : KM yX5_powerIn cX5_powerIn 4 (some .int) 2 := ⟨wT_of ⟨List.mem_of_getElem? (i := 337) (by decide +kernel), by decide +kernel⟩, wT_of ⟨List.mem_of_getElem? (i := 39) (by decide +kernel), by decide +kernel⟩, by decide +kernel, by decide +kernel, by decide +kernel⟩
set_option maxRecDepth 100000 in
theorem ks_X5_powerIn : Cond.static yX5_powerIn ∈ wT := wT_of ⟨List.mem_of_getElem? (i := 336) (by decide +kernel), by decide +kernel⟩
abbrev rm_X5_powerIn : Room := { frames := 0, cells := 0, slots := 0, locals := 0 }
set_option maxRecDepth 100000 in
theorem km_X5_powerInProduct : KM yX5_powerInProduct cX5_powerInProduct 7 (some .int) 4 := ⟨wT_of ⟨List.mem_of_getElem? (i := 334) (by decide +kernel), by decide +kernel⟩, wT_of ⟨List.mem_of_getElem? (i := 39) (by decide +kernel), by decide +kernel⟩, by decide +kernel, by decide +kernel, by decide +kernel⟩
set_option maxRecDepth 100000 in
theorem ks_X5_powerInProduct : Cond.static yX5_powerInProduct ∈ wT := wT_of ⟨List.mem_of_getElem? (i := 333) (by decide +kernel), by decide +kernel⟩
abbrev rm_X5_powerInProduct : Room := { frames := 1, cells := 0, slots := 0, locals := 23 }
set_option maxRecDepth 100000 in
theorem km_X5_product : KM yX5_product cX5_product 12 (some .long) 3 := ⟨wT_of ⟨List.mem_of_getElem? (i := 328) (by decide +kernel), by decide +kernel⟩, wT_of ⟨List.mem_of_getElem? (i := 39) (by decide +kernel), by decide +kernel⟩, by decide +kernel, by decide +kernel, by decide +kernel⟩
set_option maxRecDepth 100000 in
theorem kv_X5_product : KV yX5_product 5 := ⟨wT_of ⟨List.mem_of_getElem? (i := 326) (by decide +kernel), by decide +kernel⟩, wT_of ⟨List.mem_of_getElem? (i := 327) (by decide +kernel), by decide +kernel⟩, by decide⟩
abbrev rm_X5_product : Room := { frames := 2, cells := 0, slots := 0, locals := 49 }
set_option maxRecDepth 100000 in
theorem km_X5_makeSteps : KM yX5_makeSteps cX5_makeSteps 1 none 0 := ⟨wT_of ⟨List.mem_of_getElem? (i := 345) (by decide +kernel), by decide +kernel⟩, wT_of ⟨List.mem_of_getElem? (i := 39) (by decide +kernel), by decide +kernel⟩, by decide +kernel, by decide +kernel, by decide +kernel⟩
set_option maxRecDepth 100000 in
theorem kv_X5_makeSteps : KV yX5_makeSteps 5 := ⟨wT_of ⟨List.mem_of_getElem? (i := 344) (by decide +kernel), by decide +kernel⟩, wT_of ⟨List.mem_of_getElem? (i := 2) (by decide +kernel), by decide +kernel⟩, by decide⟩
abbrev rm_X5_makeSteps : Room := { frames := 2, cells := 0, slots := 0, locals := 51 }
set_option maxRecDepth 100000 in
theorem km_X5_layings : KM yX5_layings cX5_layings 1 (some .long) 0 := ⟨wT_of ⟨List.mem_of_getElem? (i := 341) (by decide +kernel), by decide +kernel⟩, wT_of ⟨List.mem_of_getElem? (i := 39) (by decide +kernel), by decide +kernel⟩, by decide +kernel, by decide +kernel, by decide +kernel⟩
set_option maxRecDepth 100000 in
theorem kv_X5_layings : KV yX5_layings 5 := ⟨wT_of ⟨List.mem_of_getElem? (i := 339) (by decide +kernel), by decide +kernel⟩, wT_of ⟨List.mem_of_getElem? (i := 340) (by decide +kernel), by decide +kernel⟩, by decide⟩
abbrev rm_X5_layings : Room := { frames := 3, cells := 0, slots := 0, locals := 71 }
set_option maxRecDepth 100000 in
theorem km_X5_isKind : KM yX5_isKind cX5_isKind 1 (some .boolean) 1 := ⟨wT_of ⟨List.mem_of_getElem? (i := 380) (by decide +kernel), by decide +kernel⟩, wT_of ⟨List.mem_of_getElem? (i := 39) (by decide +kernel), by decide +kernel⟩, by decide +kernel, by decide +kernel, by decide +kernel⟩
set_option maxRecDepth 100000 in
theorem ks_X5_isKind : Cond.static yX5_isKind ∈ wT := wT_of ⟨List.mem_of_getElem? (i := 379) (by decide +kernel), by decide +kernel⟩
abbrev rm_X5_isKind : Room := { frames := 0, cells := 0, slots := 0, locals := 0 }
set_option maxRecDepth 100000 in
theorem km_X5_with : KM yX5_with cX5_with 3 (some .long) 2 := ⟨wT_of ⟨List.mem_of_getElem? (i := 373) (by decide +kernel), by decide +kernel⟩, wT_of ⟨List.mem_of_getElem? (i := 39) (by decide +kernel), by decide +kernel⟩, by decide +kernel, by decide +kernel, by decide +kernel⟩
set_option maxRecDepth 100000 in
theorem kv_X5_with : KV yX5_with 5 := ⟨wT_of ⟨List.mem_of_getElem? (i := 371) (by decide +kernel), by decide +kernel⟩, wT_of ⟨List.mem_of_getElem? (i := 372) (by decide +kernel), by decide +kernel⟩, by decide⟩
abbrev rm_X5_with : Room := { frames := 3, cells := 0, slots := 0, locals := 71 }
set_option maxRecDepth 100000 in
theorem km_X5_kinds : KM yX5_kinds cX5_kinds 2 (some .int) 1 := ⟨wT_of ⟨List.mem_of_getElem? (i := 389) (by decide +kernel), by decide +kernel⟩, wT_of ⟨List.mem_of_getElem? (i := 39) (by decide +kernel), by decide +kernel⟩, by decide +kernel, by decide +kernel, by decide +kernel⟩
set_option maxRecDepth 100000 in
theorem kv_X5_kinds : KV yX5_kinds 5 := ⟨wT_of ⟨List.mem_of_getElem? (i := 387) (by decide +kernel), by decide +kernel⟩, wT_of ⟨List.mem_of_getElem? (i := 388) (by decide +kernel), by decide +kernel⟩, by decide⟩
abbrev rm_X5_kinds : Room := { frames := 3, cells := 0, slots := 0, locals := 71 }
set_option maxRecDepth 100000 in
theorem km_J6_bitCount_0f7a4 : KM yJ6_bitCount_0f7a4 cJ6_bitCount_0f7a4 1 (some .int) 1 := ⟨wT_of ⟨List.mem_of_getElem? (i := 401) (by decide +kernel), by decide +kernel⟩, wT_of ⟨List.mem_of_getElem? (i := 48) (by decide +kernel), by decide +kernel⟩, by decide +kernel, by decide +kernel, by decide +kernel⟩
set_option maxRecDepth 100000 in
theorem ks_J6_bitCount_0f7a4 : Cond.static yJ6_bitCount_0f7a4 ∈ wT := wT_of ⟨List.mem_of_getElem? (i := 400) (by decide +kernel), by decide +kernel⟩
abbrev rm_J6_bitCount_0f7a4 : Room := { frames := 0, cells := 0, slots := 0, locals := 0 }
set_option maxRecDepth 100000 in
theorem km_X5_forced : KM yX5_forced cX5_forced 3 (some .int) 0 := ⟨wT_of ⟨List.mem_of_getElem? (i := 398) (by decide +kernel), by decide +kernel⟩, wT_of ⟨List.mem_of_getElem? (i := 39) (by decide +kernel), by decide +kernel⟩, by decide +kernel, by decide +kernel, by decide +kernel⟩
set_option maxRecDepth 100000 in
theorem kv_X5_forced : KV yX5_forced 5 := ⟨wT_of ⟨List.mem_of_getElem? (i := 396) (by decide +kernel), by decide +kernel⟩, wT_of ⟨List.mem_of_getElem? (i := 397) (by decide +kernel), by decide +kernel⟩, by decide⟩
abbrev rm_X5_forced : Room := { frames := 3, cells := 0, slots := 0, locals := 71 }
set_option maxRecDepth 100000 in
theorem km_X5_span : KM yX5_span cX5_span 5 (some .int) 2 := ⟨wT_of ⟨List.mem_of_getElem? (i := 408) (by decide +kernel), by decide +kernel⟩, wT_of ⟨List.mem_of_getElem? (i := 39) (by decide +kernel), by decide +kernel⟩, by decide +kernel, by decide +kernel, by decide +kernel⟩
set_option maxRecDepth 100000 in
theorem kv_X5_span : KV yX5_span 5 := ⟨wT_of ⟨List.mem_of_getElem? (i := 406) (by decide +kernel), by decide +kernel⟩, wT_of ⟨List.mem_of_getElem? (i := 407) (by decide +kernel), by decide +kernel⟩, by decide⟩
abbrev rm_X5_span : Room := { frames := 3, cells := 0, slots := 0, locals := 71 }
set_option maxRecDepth 100000 in
theorem km_X5_weight : KM yX5_weight cX5_weight 5 (some .int) 3 := ⟨wT_of ⟨List.mem_of_getElem? (i := 425) (by decide +kernel), by decide +kernel⟩, wT_of ⟨List.mem_of_getElem? (i := 39) (by decide +kernel), by decide +kernel⟩, by decide +kernel, by decide +kernel, by decide +kernel⟩
set_option maxRecDepth 100000 in
theorem kv_X5_weight : KV yX5_weight 5 := ⟨wT_of ⟨List.mem_of_getElem? (i := 423) (by decide +kernel), by decide +kernel⟩, wT_of ⟨List.mem_of_getElem? (i := 424) (by decide +kernel), by decide +kernel⟩, by decide⟩
abbrev rm_X5_weight : Room := { frames := 1, cells := 0, slots := 0, locals := 21 }
set_option maxRecDepth 100000 in
theorem km_X5_dearest : KM yX5_dearest cX5_dearest 1 (some .int) 0 := ⟨wT_of ⟨List.mem_of_getElem? (i := 429) (by decide +kernel), by decide +kernel⟩, wT_of ⟨List.mem_of_getElem? (i := 39) (by decide +kernel), by decide +kernel⟩, by decide +kernel, by decide +kernel, by decide +kernel⟩
set_option maxRecDepth 100000 in
theorem kv_X5_dearest : KV yX5_dearest 5 := ⟨wT_of ⟨List.mem_of_getElem? (i := 427) (by decide +kernel), by decide +kernel⟩, wT_of ⟨List.mem_of_getElem? (i := 428) (by decide +kernel), by decide +kernel⟩, by decide⟩
abbrev rm_X5_dearest : Room := { frames := 3, cells := 0, slots := 0, locals := 71 }
set_option maxRecDepth 100000 in
theorem km_X5_isSlot : KM yX5_isSlot cX5_isSlot 1 (some .boolean) 1 := ⟨wT_of ⟨List.mem_of_getElem? (i := 436) (by decide +kernel), by decide +kernel⟩, wT_of ⟨List.mem_of_getElem? (i := 39) (by decide +kernel), by decide +kernel⟩, by decide +kernel, by decide +kernel, by decide +kernel⟩
set_option maxRecDepth 100000 in
theorem ks_X5_isSlot : Cond.static yX5_isSlot ∈ wT := wT_of ⟨List.mem_of_getElem? (i := 435) (by decide +kernel), by decide +kernel⟩
abbrev rm_X5_isSlot : Room := { frames := 0, cells := 0, slots := 0, locals := 0 }
set_option maxRecDepth 100000 in
theorem km_X5_lay : KM yX5_lay cX5_lay 4 (some .int) 2 := ⟨wT_of ⟨List.mem_of_getElem? (i := 433) (by decide +kernel), by decide +kernel⟩, wT_of ⟨List.mem_of_getElem? (i := 39) (by decide +kernel), by decide +kernel⟩, by decide +kernel, by decide +kernel, by decide +kernel⟩
set_option maxRecDepth 100000 in
theorem kv_X5_lay : KV yX5_lay 5 := ⟨wT_of ⟨List.mem_of_getElem? (i := 431) (by decide +kernel), by decide +kernel⟩, wT_of ⟨List.mem_of_getElem? (i := 432) (by decide +kernel), by decide +kernel⟩, by decide⟩
abbrev rm_X5_lay : Room := { frames := 3, cells := 0, slots := 0, locals := 77 }
set_option maxRecDepth 100000 in
theorem km_X5_layDearest : KM yX5_layDearest cX5_layDearest 3 (some .int) 1 := ⟨wT_of ⟨List.mem_of_getElem? (i := 458) (by decide +kernel), by decide +kernel⟩, wT_of ⟨List.mem_of_getElem? (i := 39) (by decide +kernel), by decide +kernel⟩, by decide +kernel, by decide +kernel, by decide +kernel⟩
set_option maxRecDepth 100000 in
theorem kv_X5_layDearest : KV yX5_layDearest 5 := ⟨wT_of ⟨List.mem_of_getElem? (i := 456) (by decide +kernel), by decide +kernel⟩, wT_of ⟨List.mem_of_getElem? (i := 457) (by decide +kernel), by decide +kernel⟩, by decide⟩
abbrev rm_X5_layDearest : Room := { frames := 3, cells := 0, slots := 0, locals := 77 }
set_option maxRecDepth 100000 in
theorem km_X5_copy : KM yX5_copy cX5_copy 3 (some .int) 2 := ⟨wT_of ⟨List.mem_of_getElem? (i := 471) (by decide +kernel), by decide +kernel⟩, wT_of ⟨List.mem_of_getElem? (i := 39) (by decide +kernel), by decide +kernel⟩, by decide +kernel, by decide +kernel, by decide +kernel⟩
set_option maxRecDepth 100000 in
theorem kv_X5_copy : KV yX5_copy 5 := ⟨wT_of ⟨List.mem_of_getElem? (i := 469) (by decide +kernel), by decide +kernel⟩, wT_of ⟨List.mem_of_getElem? (i := 470) (by decide +kernel), by decide +kernel⟩, by decide⟩
abbrev rm_X5_copy : Room := { frames := 1, cells := 0, slots := 0, locals := 21 }
set_option maxRecDepth 100000 in
theorem km_X5_place : KM yX5_place cX5_place 2 (some .long) 1 := ⟨wT_of ⟨List.mem_of_getElem? (i := 479) (by decide +kernel), by decide +kernel⟩, wT_of ⟨List.mem_of_getElem? (i := 39) (by decide +kernel), by decide +kernel⟩, by decide +kernel, by decide +kernel, by decide +kernel⟩
set_option maxRecDepth 100000 in
theorem kv_X5_place : KV yX5_place 5 := ⟨wT_of ⟨List.mem_of_getElem? (i := 477) (by decide +kernel), by decide +kernel⟩, wT_of ⟨List.mem_of_getElem? (i := 478) (by decide +kernel), by decide +kernel⟩, by decide⟩
abbrev rm_X5_place : Room := { frames := 3, cells := 0, slots := 0, locals := 71 }
set_option maxRecDepth 100000 in
theorem km_X5_kind : KM yX5_kind cX5_kind 4 (some .int) 2 := ⟨wT_of ⟨List.mem_of_getElem? (i := 492) (by decide +kernel), by decide +kernel⟩, wT_of ⟨List.mem_of_getElem? (i := 39) (by decide +kernel), by decide +kernel⟩, by decide +kernel, by decide +kernel, by decide +kernel⟩
set_option maxRecDepth 100000 in
theorem kv_X5_kind : KV yX5_kind 5 := ⟨wT_of ⟨List.mem_of_getElem? (i := 490) (by decide +kernel), by decide +kernel⟩, wT_of ⟨List.mem_of_getElem? (i := 491) (by decide +kernel), by decide +kernel⟩, by decide⟩
abbrev rm_X5_kind : Room := { frames := 1, cells := 0, slots := 0, locals := 21 }
set_option maxRecDepth 100000 in
theorem km_X5_count : KM yX5_count cX5_count 3 (some .int) 2 := ⟨wT_of ⟨List.mem_of_getElem? (i := 497) (by decide +kernel), by decide +kernel⟩, wT_of ⟨List.mem_of_getElem? (i := 39) (by decide +kernel), by decide +kernel⟩, by decide +kernel, by decide +kernel, by decide +kernel⟩
set_option maxRecDepth 100000 in
theorem kv_X5_count : KV yX5_count 5 := ⟨wT_of ⟨List.mem_of_getElem? (i := 495) (by decide +kernel), by decide +kernel⟩, wT_of ⟨List.mem_of_getElem? (i := 496) (by decide +kernel), by decide +kernel⟩, by decide⟩
abbrev rm_X5_count : Room := { frames := 1, cells := 0, slots := 0, locals := 21 }
set_option maxRecDepth 100000 in
theorem km_X5_weighs : KM yX5_weighs cX5_weighs 5 (some .int) 1 := ⟨wT_of ⟨List.mem_of_getElem? (i := 505) (by decide +kernel), by decide +kernel⟩, wT_of ⟨List.mem_of_getElem? (i := 39) (by decide +kernel), by decide +kernel⟩, by decide +kernel, by decide +kernel, by decide +kernel⟩
set_option maxRecDepth 100000 in
theorem kv_X5_weighs : KV yX5_weighs 5 := ⟨wT_of ⟨List.mem_of_getElem? (i := 503) (by decide +kernel), by decide +kernel⟩, wT_of ⟨List.mem_of_getElem? (i := 504) (by decide +kernel), by decide +kernel⟩, by decide⟩
abbrev rm_X5_weighs : Room := { frames := 1, cells := 0, slots := 0, locals := 21 }
set_option maxRecDepth 100000 in
theorem km_X5_point : KM yX5_point cX5_point 7 (some .int) 3 := ⟨wT_of ⟨List.mem_of_getElem? (i := 509) (by decide +kernel), by decide +kernel⟩, wT_of ⟨List.mem_of_getElem? (i := 39) (by decide +kernel), by decide +kernel⟩, by decide +kernel, by decide +kernel, by decide +kernel⟩
set_option maxRecDepth 100000 in
theorem kv_X5_point : KV yX5_point 5 := ⟨wT_of ⟨List.mem_of_getElem? (i := 507) (by decide +kernel), by decide +kernel⟩, wT_of ⟨List.mem_of_getElem? (i := 508) (by decide +kernel), by decide +kernel⟩, by decide⟩
abbrev rm_X5_point : Room := { frames := 1, cells := 0, slots := 0, locals := 22 }
set_option maxRecDepth 100000 in
theorem km_X5_free : KM yX5_free cX5_free 3 (some .int) 2 := ⟨wT_of ⟨List.mem_of_getElem? (i := 526) (by decide +kernel), by decide +kernel⟩, wT_of ⟨List.mem_of_getElem? (i := 39) (by decide +kernel), by decide +kernel⟩, by decide +kernel, by decide +kernel, by decide +kernel⟩
set_option maxRecDepth 100000 in
theorem kv_X5_free : KV yX5_free 5 := ⟨wT_of ⟨List.mem_of_getElem? (i := 524) (by decide +kernel), by decide +kernel⟩, wT_of ⟨List.mem_of_getElem? (i := 525) (by decide +kernel), by decide +kernel⟩, by decide⟩
abbrev rm_X5_free : Room := { frames := 1, cells := 0, slots := 0, locals := 21 }
set_option maxRecDepth 100000 in
theorem km_X5_turn : KM yX5_turn cX5_turn 8 (some .int) 3 := ⟨wT_of ⟨List.mem_of_getElem? (i := 530) (by decide +kernel), by decide +kernel⟩, wT_of ⟨List.mem_of_getElem? (i := 39) (by decide +kernel), by decide +kernel⟩, by decide +kernel, by decide +kernel, by decide +kernel⟩
set_option maxRecDepth 100000 in
theorem kv_X5_turn : KV yX5_turn 5 := ⟨wT_of ⟨List.mem_of_getElem? (i := 528) (by decide +kernel), by decide +kernel⟩, wT_of ⟨List.mem_of_getElem? (i := 529) (by decide +kernel), by decide +kernel⟩, by decide⟩
abbrev rm_X5_turn : Room := { frames := 1, cells := 0, slots := 0, locals := 23 }
set_option maxRecDepth 100000 in
theorem km_X5_apart : KM yX5_apart cX5_apart 4 (some .int) 2 := ⟨wT_of ⟨List.mem_of_getElem? (i := 538) (by decide +kernel), by decide +kernel⟩, wT_of ⟨List.mem_of_getElem? (i := 39) (by decide +kernel), by decide +kernel⟩, by decide +kernel, by decide +kernel, by decide +kernel⟩
set_option maxRecDepth 100000 in
theorem kv_X5_apart : KV yX5_apart 5 := ⟨wT_of ⟨List.mem_of_getElem? (i := 536) (by decide +kernel), by decide +kernel⟩, wT_of ⟨List.mem_of_getElem? (i := 537) (by decide +kernel), by decide +kernel⟩, by decide⟩
abbrev rm_X5_apart : Room := { frames := 3, cells := 0, slots := 0, locals := 75 }
set_option maxRecDepth 100000 in
theorem km_X5_end : KM yX5_end cX5_end 3 (some .int) 2 := ⟨wT_of ⟨List.mem_of_getElem? (i := 561) (by decide +kernel), by decide +kernel⟩, wT_of ⟨List.mem_of_getElem? (i := 39) (by decide +kernel), by decide +kernel⟩, by decide +kernel, by decide +kernel, by decide +kernel⟩
set_option maxRecDepth 100000 in
theorem kv_X5_end : KV yX5_end 5 := ⟨wT_of ⟨List.mem_of_getElem? (i := 559) (by decide +kernel), by decide +kernel⟩, wT_of ⟨List.mem_of_getElem? (i := 560) (by decide +kernel), by decide +kernel⟩, by decide⟩
abbrev rm_X5_end : Room := { frames := 2, cells := 0, slots := 0, locals := 50 }
set_option maxRecDepth 100000 in
theorem km_X5_reach : KM yX5_reach cX5_reach 3 (some .int) 1 := ⟨wT_of ⟨List.mem_of_getElem? (i := 571) (by decide +kernel), by decide +kernel⟩, wT_of ⟨List.mem_of_getElem? (i := 39) (by decide +kernel), by decide +kernel⟩, by decide +kernel, by decide +kernel, by decide +kernel⟩
set_option maxRecDepth 100000 in
theorem kv_X5_reach : KV yX5_reach 5 := ⟨wT_of ⟨List.mem_of_getElem? (i := 569) (by decide +kernel), by decide +kernel⟩, wT_of ⟨List.mem_of_getElem? (i := 570) (by decide +kernel), by decide +kernel⟩, by decide⟩
abbrev rm_X5_reach : Room := { frames := 3, cells := 0, slots := 0, locals := 86 }
set_option maxRecDepth 100000 in
theorem km_X5_mirror : KM yX5_mirror cX5_mirror 4 (some .int) 1 := ⟨wT_of ⟨List.mem_of_getElem? (i := 589) (by decide +kernel), by decide +kernel⟩, wT_of ⟨List.mem_of_getElem? (i := 39) (by decide +kernel), by decide +kernel⟩, by decide +kernel, by decide +kernel, by decide +kernel⟩
set_option maxRecDepth 100000 in
theorem kv_X5_mirror : KV yX5_mirror 5 := ⟨wT_of ⟨List.mem_of_getElem? (i := 587) (by decide +kernel), by decide +kernel⟩, wT_of ⟨List.mem_of_getElem? (i := 588) (by decide +kernel), by decide +kernel⟩, by decide⟩
abbrev rm_X5_mirror : Room := { frames := 3, cells := 0, slots := 0, locals := 68 }
set_option maxRecDepth 100000 in
theorem km_X5_makeJoining : KM yX5_makeJoining cX5_makeJoining 1 none 0 := ⟨wT_of ⟨List.mem_of_getElem? (i := 610) (by decide +kernel), by decide +kernel⟩, wT_of ⟨List.mem_of_getElem? (i := 39) (by decide +kernel), by decide +kernel⟩, by decide +kernel, by decide +kernel, by decide +kernel⟩
set_option maxRecDepth 100000 in
theorem kv_X5_makeJoining : KV yX5_makeJoining 5 := ⟨wT_of ⟨List.mem_of_getElem? (i := 609) (by decide +kernel), by decide +kernel⟩, wT_of ⟨List.mem_of_getElem? (i := 3) (by decide +kernel), by decide +kernel⟩, by decide⟩
abbrev rm_X5_makeJoining : Room := { frames := 3, cells := 0, slots := 0, locals := 78 }
set_option maxRecDepth 100000 in
theorem km_X5_most : KM yX5_most cX5_most 1 (some .int) 0 := ⟨wT_of ⟨List.mem_of_getElem? (i := 606) (by decide +kernel), by decide +kernel⟩, wT_of ⟨List.mem_of_getElem? (i := 39) (by decide +kernel), by decide +kernel⟩, by decide +kernel, by decide +kernel, by decide +kernel⟩
set_option maxRecDepth 100000 in
theorem kv_X5_most : KV yX5_most 5 := ⟨wT_of ⟨List.mem_of_getElem? (i := 604) (by decide +kernel), by decide +kernel⟩, wT_of ⟨List.mem_of_getElem? (i := 605) (by decide +kernel), by decide +kernel⟩, by decide⟩
abbrev rm_X5_most : Room := { frames := 4, cells := 0, slots := 0, locals := 98 }
set_option maxRecDepth 100000 in
theorem km_X5_lack : KM yX5_lack cX5_lack 1 (some .int) 0 := ⟨wT_of ⟨List.mem_of_getElem? (i := 648) (by decide +kernel), by decide +kernel⟩, wT_of ⟨List.mem_of_getElem? (i := 39) (by decide +kernel), by decide +kernel⟩, by decide +kernel, by decide +kernel, by decide +kernel⟩
set_option maxRecDepth 100000 in
theorem kv_X5_lack : KV yX5_lack 5 := ⟨wT_of ⟨List.mem_of_getElem? (i := 646) (by decide +kernel), by decide +kernel⟩, wT_of ⟨List.mem_of_getElem? (i := 647) (by decide +kernel), by decide +kernel⟩, by decide⟩
abbrev rm_X5_lack : Room := { frames := 4, cells := 0, slots := 0, locals := 98 }
set_option maxRecDepth 100000 in
theorem km_X5_bar : KM yX5_bar cX5_bar 1 (some .int) 0 := ⟨wT_of ⟨List.mem_of_getElem? (i := 652) (by decide +kernel), by decide +kernel⟩, wT_of ⟨List.mem_of_getElem? (i := 39) (by decide +kernel), by decide +kernel⟩, by decide +kernel, by decide +kernel, by decide +kernel⟩
set_option maxRecDepth 100000 in
theorem kv_X5_bar : KV yX5_bar 5 := ⟨wT_of ⟨List.mem_of_getElem? (i := 650) (by decide +kernel), by decide +kernel⟩, wT_of ⟨List.mem_of_getElem? (i := 651) (by decide +kernel), by decide +kernel⟩, by decide⟩
abbrev rm_X5_bar : Room := { frames := 4, cells := 0, slots := 0, locals := 98 }
set_option maxRecDepth 100000 in
theorem km_X5_barred : KM yX5_barred cX5_barred 4 (some .int) 1 := ⟨wT_of ⟨List.mem_of_getElem? (i := 656) (by decide +kernel), by decide +kernel⟩, wT_of ⟨List.mem_of_getElem? (i := 39) (by decide +kernel), by decide +kernel⟩, by decide +kernel, by decide +kernel, by decide +kernel⟩
set_option maxRecDepth 100000 in
theorem kv_X5_barred : KV yX5_barred 5 := ⟨wT_of ⟨List.mem_of_getElem? (i := 654) (by decide +kernel), by decide +kernel⟩, wT_of ⟨List.mem_of_getElem? (i := 655) (by decide +kernel), by decide +kernel⟩, by decide⟩
abbrev rm_X5_barred : Room := { frames := 4, cells := 0, slots := 0, locals := 98 }
set_option maxRecDepth 100000 in
theorem km_X6_in : KM yX6_in cX6_in 6 (some .boolean) 3 := ⟨wT_of ⟨List.mem_of_getElem? (i := 743) (by decide +kernel), by decide +kernel⟩, wT_of ⟨List.mem_of_getElem? (i := 45) (by decide +kernel), by decide +kernel⟩, by decide +kernel, by decide +kernel, by decide +kernel⟩
set_option maxRecDepth 100000 in
theorem ks_X6_in : Cond.static yX6_in ∈ wT := wT_of ⟨List.mem_of_getElem? (i := 742) (by decide +kernel), by decide +kernel⟩
abbrev rm_X6_in : Room := { frames := 0, cells := 0, slots := 0, locals := 0 }
set_option maxRecDepth 100000 in
theorem km_X6_empty : KM yX6_empty cX6_empty 2 none 0 := ⟨wT_of ⟨List.mem_of_getElem? (i := 670) (by decide +kernel), by decide +kernel⟩, wT_of ⟨List.mem_of_getElem? (i := 45) (by decide +kernel), by decide +kernel⟩, by decide +kernel, by decide +kernel, by decide +kernel⟩
set_option maxRecDepth 100000 in
theorem kv_X6_empty : KV yX6_empty 6 := ⟨wT_of ⟨List.mem_of_getElem? (i := 669) (by decide +kernel), by decide +kernel⟩, wT_of ⟨List.mem_of_getElem? (i := 5) (by decide +kernel), by decide +kernel⟩, by decide⟩
abbrev rm_X6_empty : Room := { frames := 0, cells := 0, slots := 0, locals := 0 }
set_option maxRecDepth 100000 in
theorem km_X6_layGround : KM yX6_layGround cX6_layGround 4 none 2 := ⟨wT_of ⟨List.mem_of_getElem? (i := 666) (by decide +kernel), by decide +kernel⟩, wT_of ⟨List.mem_of_getElem? (i := 45) (by decide +kernel), by decide +kernel⟩, by decide +kernel, by decide +kernel, by decide +kernel⟩
set_option maxRecDepth 100000 in
theorem kv_X6_layGround : KV yX6_layGround 6 := ⟨wT_of ⟨List.mem_of_getElem? (i := 665) (by decide +kernel), by decide +kernel⟩, wT_of ⟨List.mem_of_getElem? (i := 4) (by decide +kernel), by decide +kernel⟩, by decide⟩
abbrev rm_X6_layGround : Room := { frames := 1, cells := 0, slots := 0, locals := 21 }
set_option maxRecDepth 100000 in
theorem km_X6_cells : KM yX6_cells cX6_cells 1 (some .int) 0 := ⟨wT_of ⟨List.mem_of_getElem? (i := 756) (by decide +kernel), by decide +kernel⟩, wT_of ⟨List.mem_of_getElem? (i := 45) (by decide +kernel), by decide +kernel⟩, by decide +kernel, by decide +kernel, by decide +kernel⟩
set_option maxRecDepth 100000 in
theorem kv_X6_cells : KV yX6_cells 6 := ⟨wT_of ⟨List.mem_of_getElem? (i := 755) (by decide +kernel), by decide +kernel⟩, wT_of ⟨List.mem_of_getElem? (i := 6) (by decide +kernel), by decide +kernel⟩, by decide⟩
abbrev rm_X6_cells : Room := { frames := 0, cells := 0, slots := 0, locals := 0 }
set_option maxRecDepth 100000 in
theorem km_X6_isCell : KM yX6_isCell cX6_isCell 2 (some .boolean) 1 := ⟨wT_of ⟨List.mem_of_getElem? (i := 814) (by decide +kernel), by decide +kernel⟩, wT_of ⟨List.mem_of_getElem? (i := 45) (by decide +kernel), by decide +kernel⟩, by decide +kernel, by decide +kernel, by decide +kernel⟩
set_option maxRecDepth 100000 in
theorem kv_X6_isCell : KV yX6_isCell 6 := ⟨wT_of ⟨List.mem_of_getElem? (i := 813) (by decide +kernel), by decide +kernel⟩, wT_of ⟨List.mem_of_getElem? (i := 12) (by decide +kernel), by decide +kernel⟩, by decide⟩
abbrev rm_X6_isCell : Room := { frames := 1, cells := 0, slots := 0, locals := 25 }
set_option maxRecDepth 100000 in
theorem km_X6_isUp : KM yX6_isUp cX6_isUp 2 (some .boolean) 1 := ⟨wT_of ⟨List.mem_of_getElem? (i := 801) (by decide +kernel), by decide +kernel⟩, wT_of ⟨List.mem_of_getElem? (i := 45) (by decide +kernel), by decide +kernel⟩, by decide +kernel, by decide +kernel, by decide +kernel⟩
set_option maxRecDepth 100000 in
theorem kv_X6_isUp : KV yX6_isUp 6 := ⟨wT_of ⟨List.mem_of_getElem? (i := 800) (by decide +kernel), by decide +kernel⟩, wT_of ⟨List.mem_of_getElem? (i := 10) (by decide +kernel), by decide +kernel⟩, by decide⟩
abbrev rm_X6_isUp : Room := { frames := 0, cells := 0, slots := 0, locals := 0 }
set_option maxRecDepth 100000 in
theorem km_X6_isDown : KM yX6_isDown cX6_isDown 2 (some .boolean) 1 := ⟨wT_of ⟨List.mem_of_getElem? (i := 806) (by decide +kernel), by decide +kernel⟩, wT_of ⟨List.mem_of_getElem? (i := 45) (by decide +kernel), by decide +kernel⟩, by decide +kernel, by decide +kernel, by decide +kernel⟩
set_option maxRecDepth 100000 in
theorem kv_X6_isDown : KV yX6_isDown 6 := ⟨wT_of ⟨List.mem_of_getElem? (i := 805) (by decide +kernel), by decide +kernel⟩, wT_of ⟨List.mem_of_getElem? (i := 11) (by decide +kernel), by decide +kernel⟩, by decide⟩
abbrev rm_X6_isDown : Room := { frames := 0, cells := 0, slots := 0, locals := 0 }
set_option maxRecDepth 100000 in
theorem km_X6_ground : KM yX6_ground cX6_ground 3 (some .int) 2 := ⟨wT_of ⟨List.mem_of_getElem? (i := 739) (by decide +kernel), by decide +kernel⟩, wT_of ⟨List.mem_of_getElem? (i := 45) (by decide +kernel), by decide +kernel⟩, by decide +kernel, by decide +kernel, by decide +kernel⟩
set_option maxRecDepth 100000 in
theorem kv_X6_ground : KV yX6_ground 6 := ⟨wT_of ⟨List.mem_of_getElem? (i := 737) (by decide +kernel), by decide +kernel⟩, wT_of ⟨List.mem_of_getElem? (i := 738) (by decide +kernel), by decide +kernel⟩, by decide⟩
abbrev rm_X6_ground : Room := { frames := 2, cells := 0, slots := 0, locals := 44 }
set_option maxRecDepth 100000 in
theorem km_X6_isHexagon : KM yX6_isHexagon cX6_isHexagon 3 (some .boolean) 3 := ⟨wT_of ⟨List.mem_of_getElem? (i := 751) (by decide +kernel), by decide +kernel⟩, wT_of ⟨List.mem_of_getElem? (i := 45) (by decide +kernel), by decide +kernel⟩, by decide +kernel, by decide +kernel, by decide +kernel⟩
set_option maxRecDepth 100000 in
theorem ks_X6_isHexagon : Cond.static yX6_isHexagon ∈ wT := wT_of ⟨List.mem_of_getElem? (i := 750) (by decide +kernel), by decide +kernel⟩
abbrev rm_X6_isHexagon : Room := { frames := 1, cells := 0, slots := 0, locals := 25 }
set_option maxRecDepth 100000 in
theorem km_X6_hexagon : KM yX6_hexagon cX6_hexagon 7 (some .int) 3 := ⟨wT_of ⟨List.mem_of_getElem? (i := 748) (by decide +kernel), by decide +kernel⟩, wT_of ⟨List.mem_of_getElem? (i := 45) (by decide +kernel), by decide +kernel⟩, by decide +kernel, by decide +kernel, by decide +kernel⟩
set_option maxRecDepth 100000 in
theorem kv_X6_hexagon : KV yX6_hexagon 6 := ⟨wT_of ⟨List.mem_of_getElem? (i := 746) (by decide +kernel), by decide +kernel⟩, wT_of ⟨List.mem_of_getElem? (i := 747) (by decide +kernel), by decide +kernel⟩, by decide⟩
abbrev rm_X6_hexagon : Room := { frames := 2, cells := 0, slots := 0, locals := 47 }
set_option maxRecDepth 100000 in
theorem km_X6_set : KM yX6_set cX6_set 4 (some .int) 2 := ⟨wT_of ⟨List.mem_of_getElem? (i := 760) (by decide +kernel), by decide +kernel⟩, wT_of ⟨List.mem_of_getElem? (i := 45) (by decide +kernel), by decide +kernel⟩, by decide +kernel, by decide +kernel, by decide +kernel⟩
set_option maxRecDepth 100000 in
theorem kv_X6_set : KV yX6_set 6 := ⟨wT_of ⟨List.mem_of_getElem? (i := 758) (by decide +kernel), by decide +kernel⟩, wT_of ⟨List.mem_of_getElem? (i := 759) (by decide +kernel), by decide +kernel⟩, by decide⟩
abbrev rm_X6_set : Room := { frames := 1, cells := 0, slots := 0, locals := 25 }
set_option maxRecDepth 100000 in
theorem km_X6_isIn : KM yX6_isIn cX6_isIn 2 (some .int) 1 := ⟨wT_of ⟨List.mem_of_getElem? (i := 765) (by decide +kernel), by decide +kernel⟩, wT_of ⟨List.mem_of_getElem? (i := 45) (by decide +kernel), by decide +kernel⟩, by decide +kernel, by decide +kernel, by decide +kernel⟩
set_option maxRecDepth 100000 in
theorem kv_X6_isIn : KV yX6_isIn 6 := ⟨wT_of ⟨List.mem_of_getElem? (i := 763) (by decide +kernel), by decide +kernel⟩, wT_of ⟨List.mem_of_getElem? (i := 764) (by decide +kernel), by decide +kernel⟩, by decide⟩
abbrev rm_X6_isIn : Room := { frames := 1, cells := 0, slots := 0, locals := 25 }
set_option maxRecDepth 100000 in
theorem km_X6_count : KM yX6_count cX6_count 4 (some .int) 1 := ⟨wT_of ⟨List.mem_of_getElem? (i := 773) (by decide +kernel), by decide +kernel⟩, wT_of ⟨List.mem_of_getElem? (i := 45) (by decide +kernel), by decide +kernel⟩, by decide +kernel, by decide +kernel, by decide +kernel⟩
set_option maxRecDepth 100000 in
theorem kv_X6_count : KV yX6_count 6 := ⟨wT_of ⟨List.mem_of_getElem? (i := 772) (by decide +kernel), by decide +kernel⟩, wT_of ⟨List.mem_of_getElem? (i := 7) (by decide +kernel), by decide +kernel⟩, by decide⟩
abbrev rm_X6_count : Room := { frames := 1, cells := 0, slots := 0, locals := 20 }
set_option maxRecDepth 100000 in
theorem km_X6_ups : KM yX6_ups cX6_ups 2 (some .int) 1 := ⟨wT_of ⟨List.mem_of_getElem? (i := 769) (by decide +kernel), by decide +kernel⟩, wT_of ⟨List.mem_of_getElem? (i := 45) (by decide +kernel), by decide +kernel⟩, by decide +kernel, by decide +kernel, by decide +kernel⟩
set_option maxRecDepth 100000 in
theorem kv_X6_ups : KV yX6_ups 6 := ⟨wT_of ⟨List.mem_of_getElem? (i := 767) (by decide +kernel), by decide +kernel⟩, wT_of ⟨List.mem_of_getElem? (i := 768) (by decide +kernel), by decide +kernel⟩, by decide⟩
abbrev rm_X6_ups : Room := { frames := 2, cells := 0, slots := 0, locals := 43 }
set_option maxRecDepth 100000 in
theorem km_X6_size : KM yX6_size cX6_size 2 (some .int) 1 := ⟨wT_of ⟨List.mem_of_getElem? (i := 777) (by decide +kernel), by decide +kernel⟩, wT_of ⟨List.mem_of_getElem? (i := 45) (by decide +kernel), by decide +kernel⟩, by decide +kernel, by decide +kernel, by decide +kernel⟩
set_option maxRecDepth 100000 in
theorem kv_X6_size : KV yX6_size 6 := ⟨wT_of ⟨List.mem_of_getElem? (i := 775) (by decide +kernel), by decide +kernel⟩, wT_of ⟨List.mem_of_getElem? (i := 776) (by decide +kernel), by decide +kernel⟩, by decide⟩
abbrev rm_X6_size : Room := { frames := 0, cells := 0, slots := 0, locals := 0 }
set_option maxRecDepth 100000 in
theorem km_X6_common : KM yX6_common cX6_common 10 (some .long) 2 := ⟨wT_of ⟨List.mem_of_getElem? (i := 785) (by decide +kernel), by decide +kernel⟩, wT_of ⟨List.mem_of_getElem? (i := 45) (by decide +kernel), by decide +kernel⟩, by decide +kernel, by decide +kernel, by decide +kernel⟩
set_option maxRecDepth 100000 in
theorem ks_X6_common : Cond.static yX6_common ∈ wT := wT_of ⟨List.mem_of_getElem? (i := 784) (by decide +kernel), by decide +kernel⟩
abbrev rm_X6_common : Room := { frames := 0, cells := 0, slots := 0, locals := 0 }
set_option maxRecDepth 100000 in
theorem km_X6_product : KM yX6_product cX6_product 13 (some .long) 3 := ⟨wT_of ⟨List.mem_of_getElem? (i := 781) (by decide +kernel), by decide +kernel⟩, wT_of ⟨List.mem_of_getElem? (i := 45) (by decide +kernel), by decide +kernel⟩, by decide +kernel, by decide +kernel, by decide +kernel⟩
set_option maxRecDepth 100000 in
theorem kv_X6_product : KV yX6_product 6 := ⟨wT_of ⟨List.mem_of_getElem? (i := 779) (by decide +kernel), by decide +kernel⟩, wT_of ⟨List.mem_of_getElem? (i := 780) (by decide +kernel), by decide +kernel⟩, by decide⟩
abbrev rm_X6_product : Room := { frames := 2, cells := 0, slots := 0, locals := 47 }
set_option maxRecDepth 100000 in
theorem km_X6_then : KM yX6_then cX6_then 8 (some .int) 3 := ⟨wT_of ⟨List.mem_of_getElem? (i := 797) (by decide +kernel), by decide +kernel⟩, wT_of ⟨List.mem_of_getElem? (i := 45) (by decide +kernel), by decide +kernel⟩, by decide +kernel, by decide +kernel, by decide +kernel⟩
set_option maxRecDepth 100000 in
theorem kv_X6_then : KV yX6_then 6 := ⟨wT_of ⟨List.mem_of_getElem? (i := 796) (by decide +kernel), by decide +kernel⟩, wT_of ⟨List.mem_of_getElem? (i := 9) (by decide +kernel), by decide +kernel⟩, by decide⟩
abbrev rm_X6_then : Room := { frames := 1, cells := 0, slots := 0, locals := 21 }
set_option maxRecDepth 100000 in
theorem km_X6_layWays : KM yX6_layWays cX6_layWays 8 none 0 := ⟨wT_of ⟨List.mem_of_getElem? (i := 793) (by decide +kernel), by decide +kernel⟩, wT_of ⟨List.mem_of_getElem? (i := 45) (by decide +kernel), by decide +kernel⟩, by decide +kernel, by decide +kernel, by decide +kernel⟩
set_option maxRecDepth 100000 in
theorem kv_X6_layWays : KV yX6_layWays 6 := ⟨wT_of ⟨List.mem_of_getElem? (i := 792) (by decide +kernel), by decide +kernel⟩, wT_of ⟨List.mem_of_getElem? (i := 8) (by decide +kernel), by decide +kernel⟩, by decide⟩
abbrev rm_X6_layWays : Room := { frames := 2, cells := 0, slots := 0, locals := 48 }
set_option maxRecDepth 100000 in
theorem km_X6_layCome : KM yX6_layCome cX6_layCome 6 none 0 := ⟨wT_of ⟨List.mem_of_getElem? (i := 820) (by decide +kernel), by decide +kernel⟩, wT_of ⟨List.mem_of_getElem? (i := 45) (by decide +kernel), by decide +kernel⟩, by decide +kernel, by decide +kernel, by decide +kernel⟩
set_option maxRecDepth 100000 in
theorem kv_X6_layCome : KV yX6_layCome 6 := ⟨wT_of ⟨List.mem_of_getElem? (i := 819) (by decide +kernel), by decide +kernel⟩, wT_of ⟨List.mem_of_getElem? (i := 13) (by decide +kernel), by decide +kernel⟩, by decide⟩
abbrev rm_X6_layCome : Room := { frames := 2, cells := 0, slots := 0, locals := 48 }
set_option maxRecDepth 100000 in
theorem km_X6_layings : KM yX6_layings cX6_layings 1 (some .long) 0 := ⟨wT_of ⟨List.mem_of_getElem? (i := 789) (by decide +kernel), by decide +kernel⟩, wT_of ⟨List.mem_of_getElem? (i := 45) (by decide +kernel), by decide +kernel⟩, by decide +kernel, by decide +kernel, by decide +kernel⟩
set_option maxRecDepth 100000 in
theorem kv_X6_layings : KV yX6_layings 6 := ⟨wT_of ⟨List.mem_of_getElem? (i := 787) (by decide +kernel), by decide +kernel⟩, wT_of ⟨List.mem_of_getElem? (i := 788) (by decide +kernel), by decide +kernel⟩, by decide⟩
abbrev rm_X6_layings : Room := { frames := 3, cells := 0, slots := 0, locals := 75 }
set_option maxRecDepth 100000 in
theorem km_X6_withKind : KM yX6_withKind cX6_withKind 7 (some .long) 2 := ⟨wT_of ⟨List.mem_of_getElem? (i := 824) (by decide +kernel), by decide +kernel⟩, wT_of ⟨List.mem_of_getElem? (i := 45) (by decide +kernel), by decide +kernel⟩, by decide +kernel, by decide +kernel, by decide +kernel⟩
set_option maxRecDepth 100000 in
theorem kv_X6_withKind : KV yX6_withKind 6 := ⟨wT_of ⟨List.mem_of_getElem? (i := 823) (by decide +kernel), by decide +kernel⟩, wT_of ⟨List.mem_of_getElem? (i := 14) (by decide +kernel), by decide +kernel⟩, by decide⟩
abbrev rm_X6_withKind : Room := { frames := 2, cells := 0, slots := 0, locals := 48 }
set_option maxRecDepth 100000 in
theorem km_X6_with : KM yX6_with cX6_with 3 (some .long) 2 := ⟨wT_of ⟨List.mem_of_getElem? (i := 810) (by decide +kernel), by decide +kernel⟩, wT_of ⟨List.mem_of_getElem? (i := 45) (by decide +kernel), by decide +kernel⟩, by decide +kernel, by decide +kernel, by decide +kernel⟩
set_option maxRecDepth 100000 in
theorem kv_X6_with : KV yX6_with 6 := ⟨wT_of ⟨List.mem_of_getElem? (i := 808) (by decide +kernel), by decide +kernel⟩, wT_of ⟨List.mem_of_getElem? (i := 809) (by decide +kernel), by decide +kernel⟩, by decide⟩
abbrev rm_X6_with : Room := { frames := 3, cells := 0, slots := 0, locals := 75 }
set_option maxRecDepth 100000 in
theorem km_X6_kindsOf : KM yX6_kindsOf cX6_kindsOf 4 (some .int) 1 := ⟨wT_of ⟨List.mem_of_getElem? (i := 832) (by decide +kernel), by decide +kernel⟩, wT_of ⟨List.mem_of_getElem? (i := 45) (by decide +kernel), by decide +kernel⟩, by decide +kernel, by decide +kernel, by decide +kernel⟩
set_option maxRecDepth 100000 in
theorem kv_X6_kindsOf : KV yX6_kindsOf 6 := ⟨wT_of ⟨List.mem_of_getElem? (i := 831) (by decide +kernel), by decide +kernel⟩, wT_of ⟨List.mem_of_getElem? (i := 15) (by decide +kernel), by decide +kernel⟩, by decide⟩
abbrev rm_X6_kindsOf : Room := { frames := 3, cells := 0, slots := 0, locals := 74 }
set_option maxRecDepth 100000 in
theorem km_X6_kinds : KM yX6_kinds cX6_kinds 2 (some .int) 1 := ⟨wT_of ⟨List.mem_of_getElem? (i := 828) (by decide +kernel), by decide +kernel⟩, wT_of ⟨List.mem_of_getElem? (i := 45) (by decide +kernel), by decide +kernel⟩, by decide +kernel, by decide +kernel, by decide +kernel⟩
set_option maxRecDepth 100000 in
theorem kv_X6_kinds : KV yX6_kinds 6 := ⟨wT_of ⟨List.mem_of_getElem? (i := 826) (by decide +kernel), by decide +kernel⟩, wT_of ⟨List.mem_of_getElem? (i := 827) (by decide +kernel), by decide +kernel⟩, by decide⟩
abbrev rm_X6_kinds : Room := { frames := 4, cells := 0, slots := 0, locals := 97 }
set_option maxRecDepth 100000 in
theorem km_X6_forced : KM yX6_forced cX6_forced 4 (some .int) 0 := ⟨wT_of ⟨List.mem_of_getElem? (i := 836) (by decide +kernel), by decide +kernel⟩, wT_of ⟨List.mem_of_getElem? (i := 45) (by decide +kernel), by decide +kernel⟩, by decide +kernel, by decide +kernel, by decide +kernel⟩
set_option maxRecDepth 100000 in
theorem kv_X6_forced : KV yX6_forced 6 := ⟨wT_of ⟨List.mem_of_getElem? (i := 834) (by decide +kernel), by decide +kernel⟩, wT_of ⟨List.mem_of_getElem? (i := 835) (by decide +kernel), by decide +kernel⟩, by decide⟩
abbrev rm_X6_forced : Room := { frames := 4, cells := 0, slots := 0, locals := 97 }
set_option maxRecDepth 100000 in
theorem km_X6_worth : KM yX6_worth cX6_worth 5 (some .int) 4 := ⟨wT_of ⟨List.mem_of_getElem? (i := 848) (by decide +kernel), by decide +kernel⟩, wT_of ⟨List.mem_of_getElem? (i := 45) (by decide +kernel), by decide +kernel⟩, by decide +kernel, by decide +kernel, by decide +kernel⟩
set_option maxRecDepth 100000 in
theorem kv_X6_worth : KV yX6_worth 6 := ⟨wT_of ⟨List.mem_of_getElem? (i := 847) (by decide +kernel), by decide +kernel⟩, wT_of ⟨List.mem_of_getElem? (i := 17) (by decide +kernel), by decide +kernel⟩, by decide⟩
abbrev rm_X6_worth : Room := { frames := 0, cells := 0, slots := 0, locals := 0 }
set_option maxRecDepth 100000 in
theorem km_X6_layBest : KM yX6_layBest cX6_layBest 11 none 2 := ⟨wT_of ⟨List.mem_of_getElem? (i := 844) (by decide +kernel), by decide +kernel⟩, wT_of ⟨List.mem_of_getElem? (i := 45) (by decide +kernel), by decide +kernel⟩, by decide +kernel, by decide +kernel, by decide +kernel⟩
set_option maxRecDepth 100000 in
theorem kv_X6_layBest : KV yX6_layBest 6 := ⟨wT_of ⟨List.mem_of_getElem? (i := 843) (by decide +kernel), by decide +kernel⟩, wT_of ⟨List.mem_of_getElem? (i := 16) (by decide +kernel), by decide +kernel⟩, by decide⟩
abbrev rm_X6_layBest : Room := { frames := 2, cells := 0, slots := 0, locals := 48 }
set_option maxRecDepth 100000 in
theorem km_X6_span : KM yX6_span cX6_span 3 (some .int) 2 := ⟨wT_of ⟨List.mem_of_getElem? (i := 840) (by decide +kernel), by decide +kernel⟩, wT_of ⟨List.mem_of_getElem? (i := 45) (by decide +kernel), by decide +kernel⟩, by decide +kernel, by decide +kernel, by decide +kernel⟩
set_option maxRecDepth 100000 in
theorem kv_X6_span : KV yX6_span 6 := ⟨wT_of ⟨List.mem_of_getElem? (i := 838) (by decide +kernel), by decide +kernel⟩, wT_of ⟨List.mem_of_getElem? (i := 839) (by decide +kernel), by decide +kernel⟩, by decide⟩
abbrev rm_X6_span : Room := { frames := 3, cells := 0, slots := 0, locals := 78 }
set_option maxRecDepth 100000 in
theorem km_X6_weight : KM yX6_weight cX6_weight 5 (some .int) 3 := ⟨wT_of ⟨List.mem_of_getElem? (i := 852) (by decide +kernel), by decide +kernel⟩, wT_of ⟨List.mem_of_getElem? (i := 45) (by decide +kernel), by decide +kernel⟩, by decide +kernel, by decide +kernel, by decide +kernel⟩
set_option maxRecDepth 100000 in
theorem kv_X6_weight : KV yX6_weight 6 := ⟨wT_of ⟨List.mem_of_getElem? (i := 850) (by decide +kernel), by decide +kernel⟩, wT_of ⟨List.mem_of_getElem? (i := 851) (by decide +kernel), by decide +kernel⟩, by decide⟩
abbrev rm_X6_weight : Room := { frames := 2, cells := 0, slots := 0, locals := 46 }
set_option maxRecDepth 100000 in
theorem km_X6_dearest : KM yX6_dearest cX6_dearest 1 (some .int) 0 := ⟨wT_of ⟨List.mem_of_getElem? (i := 858) (by decide +kernel), by decide +kernel⟩, wT_of ⟨List.mem_of_getElem? (i := 45) (by decide +kernel), by decide +kernel⟩, by decide +kernel, by decide +kernel, by decide +kernel⟩
set_option maxRecDepth 100000 in
theorem kv_X6_dearest : KV yX6_dearest 6 := ⟨wT_of ⟨List.mem_of_getElem? (i := 856) (by decide +kernel), by decide +kernel⟩, wT_of ⟨List.mem_of_getElem? (i := 857) (by decide +kernel), by decide +kernel⟩, by decide⟩
abbrev rm_X6_dearest : Room := { frames := 3, cells := 0, slots := 0, locals := 78 }
set_option maxRecDepth 100000 in
theorem km_X6_isSlot : KM yX6_isSlot cX6_isSlot 1 (some .boolean) 1 := ⟨wT_of ⟨List.mem_of_getElem? (i := 865) (by decide +kernel), by decide +kernel⟩, wT_of ⟨List.mem_of_getElem? (i := 45) (by decide +kernel), by decide +kernel⟩, by decide +kernel, by decide +kernel, by decide +kernel⟩
set_option maxRecDepth 100000 in
theorem ks_X6_isSlot : Cond.static yX6_isSlot ∈ wT := wT_of ⟨List.mem_of_getElem? (i := 864) (by decide +kernel), by decide +kernel⟩
abbrev rm_X6_isSlot : Room := { frames := 1, cells := 0, slots := 0, locals := 25 }
set_option maxRecDepth 100000 in
theorem km_X6_lay : KM yX6_lay cX6_lay 10 (some .int) 2 := ⟨wT_of ⟨List.mem_of_getElem? (i := 862) (by decide +kernel), by decide +kernel⟩, wT_of ⟨List.mem_of_getElem? (i := 45) (by decide +kernel), by decide +kernel⟩, by decide +kernel, by decide +kernel, by decide +kernel⟩
set_option maxRecDepth 100000 in
theorem kv_X6_lay : KV yX6_lay 6 := ⟨wT_of ⟨List.mem_of_getElem? (i := 860) (by decide +kernel), by decide +kernel⟩, wT_of ⟨List.mem_of_getElem? (i := 861) (by decide +kernel), by decide +kernel⟩, by decide⟩
abbrev rm_X6_lay : Room := { frames := 3, cells := 0, slots := 0, locals := 75 }
set_option maxRecDepth 100000 in
theorem km_X6_isBest : KM yX6_isBest cX6_isBest 5 (some .boolean) 3 := ⟨wT_of ⟨List.mem_of_getElem? (i := 875) (by decide +kernel), by decide +kernel⟩, wT_of ⟨List.mem_of_getElem? (i := 45) (by decide +kernel), by decide +kernel⟩, by decide +kernel, by decide +kernel, by decide +kernel⟩
set_option maxRecDepth 100000 in
theorem kv_X6_isBest : KV yX6_isBest 6 := ⟨wT_of ⟨List.mem_of_getElem? (i := 874) (by decide +kernel), by decide +kernel⟩, wT_of ⟨List.mem_of_getElem? (i := 18) (by decide +kernel), by decide +kernel⟩, by decide⟩
abbrev rm_X6_isBest : Room := { frames := 2, cells := 0, slots := 0, locals := 48 }
set_option maxRecDepth 100000 in
theorem km_X6_layDearest : KM yX6_layDearest cX6_layDearest 5 (some .int) 1 := ⟨wT_of ⟨List.mem_of_getElem? (i := 870) (by decide +kernel), by decide +kernel⟩, wT_of ⟨List.mem_of_getElem? (i := 45) (by decide +kernel), by decide +kernel⟩, by decide +kernel, by decide +kernel, by decide +kernel⟩
set_option maxRecDepth 100000 in
theorem kv_X6_layDearest : KV yX6_layDearest 6 := ⟨wT_of ⟨List.mem_of_getElem? (i := 868) (by decide +kernel), by decide +kernel⟩, wT_of ⟨List.mem_of_getElem? (i := 869) (by decide +kernel), by decide +kernel⟩, by decide⟩
abbrev rm_X6_layDearest : Room := { frames := 3, cells := 0, slots := 0, locals := 78 }
set_option maxRecDepth 100000 in
theorem km_X6_copy : KM yX6_copy cX6_copy 4 (some .int) 2 := ⟨wT_of ⟨List.mem_of_getElem? (i := 879) (by decide +kernel), by decide +kernel⟩, wT_of ⟨List.mem_of_getElem? (i := 45) (by decide +kernel), by decide +kernel⟩, by decide +kernel, by decide +kernel, by decide +kernel⟩
set_option maxRecDepth 100000 in
theorem kv_X6_copy : KV yX6_copy 6 := ⟨wT_of ⟨List.mem_of_getElem? (i := 877) (by decide +kernel), by decide +kernel⟩, wT_of ⟨List.mem_of_getElem? (i := 878) (by decide +kernel), by decide +kernel⟩, by decide⟩
abbrev rm_X6_copy : Room := { frames := 2, cells := 0, slots := 0, locals := 45 }
set_option maxRecDepth 100000 in
theorem km_X6_place : KM yX6_place cX6_place 8 (some .long) 1 := ⟨wT_of ⟨List.mem_of_getElem? (i := 883) (by decide +kernel), by decide +kernel⟩, wT_of ⟨List.mem_of_getElem? (i := 45) (by decide +kernel), by decide +kernel⟩, by decide +kernel, by decide +kernel, by decide +kernel⟩
set_option maxRecDepth 100000 in
theorem kv_X6_place : KV yX6_place 6 := ⟨wT_of ⟨List.mem_of_getElem? (i := 881) (by decide +kernel), by decide +kernel⟩, wT_of ⟨List.mem_of_getElem? (i := 882) (by decide +kernel), by decide +kernel⟩, by decide⟩
abbrev rm_X6_place : Room := { frames := 3, cells := 0, slots := 0, locals := 75 }
set_option maxRecDepth 100000 in
theorem km_X6_kind : KM yX6_kind cX6_kind 3 (some .int) 2 := ⟨wT_of ⟨List.mem_of_getElem? (i := 888) (by decide +kernel), by decide +kernel⟩, wT_of ⟨List.mem_of_getElem? (i := 45) (by decide +kernel), by decide +kernel⟩, by decide +kernel, by decide +kernel, by decide +kernel⟩
set_option maxRecDepth 100000 in
theorem kv_X6_kind : KV yX6_kind 6 := ⟨wT_of ⟨List.mem_of_getElem? (i := 886) (by decide +kernel), by decide +kernel⟩, wT_of ⟨List.mem_of_getElem? (i := 887) (by decide +kernel), by decide +kernel⟩, by decide⟩
abbrev rm_X6_kind : Room := { frames := 2, cells := 0, slots := 0, locals := 46 }
set_option maxRecDepth 100000 in
theorem km_X6_count_ : KM yX6_count_ cX6_count_ 5 (some .int) 2 := ⟨wT_of ⟨List.mem_of_getElem? (i := 892) (by decide +kernel), by decide +kernel⟩, wT_of ⟨List.mem_of_getElem? (i := 45) (by decide +kernel), by decide +kernel⟩, by decide +kernel, by decide +kernel, by decide +kernel⟩
set_option maxRecDepth 100000 in
theorem kv_X6_count_ : KV yX6_count_ 6 := ⟨wT_of ⟨List.mem_of_getElem? (i := 890) (by decide +kernel), by decide +kernel⟩, wT_of ⟨List.mem_of_getElem? (i := 891) (by decide +kernel), by decide +kernel⟩, by decide⟩
abbrev rm_X6_count_ : Room := { frames := 2, cells := 0, slots := 0, locals := 45 }
set_option maxRecDepth 100000 in
theorem km_X6_weighs : KM yX6_weighs cX6_weighs 4 (some .int) 1 := ⟨wT_of ⟨List.mem_of_getElem? (i := 896) (by decide +kernel), by decide +kernel⟩, wT_of ⟨List.mem_of_getElem? (i := 45) (by decide +kernel), by decide +kernel⟩, by decide +kernel, by decide +kernel, by decide +kernel⟩
set_option maxRecDepth 100000 in
theorem kv_X6_weighs : KV yX6_weighs 6 := ⟨wT_of ⟨List.mem_of_getElem? (i := 894) (by decide +kernel), by decide +kernel⟩, wT_of ⟨List.mem_of_getElem? (i := 895) (by decide +kernel), by decide +kernel⟩, by decide⟩
abbrev rm_X6_weighs : Room := { frames := 2, cells := 0, slots := 0, locals := 45 }
set_option maxRecDepth 100000 in
theorem km_X6_isPoint : KM yX6_isPoint cX6_isPoint 3 (some .boolean) 2 := ⟨wT_of ⟨List.mem_of_getElem? (i := 904) (by decide +kernel), by decide +kernel⟩, wT_of ⟨List.mem_of_getElem? (i := 45) (by decide +kernel), by decide +kernel⟩, by decide +kernel, by decide +kernel, by decide +kernel⟩
set_option maxRecDepth 100000 in
theorem kv_X6_isPoint : KV yX6_isPoint 6 := ⟨wT_of ⟨List.mem_of_getElem? (i := 903) (by decide +kernel), by decide +kernel⟩, wT_of ⟨List.mem_of_getElem? (i := 19) (by decide +kernel), by decide +kernel⟩, by decide⟩
abbrev rm_X6_isPoint : Room := { frames := 1, cells := 0, slots := 0, locals := 25 }
set_option maxRecDepth 100000 in
theorem km_X6_isThere : KM yX6_isThere cX6_isThere 4 (some .boolean) 3 := ⟨wT_of ⟨List.mem_of_getElem? (i := 916) (by decide +kernel), by decide +kernel⟩, wT_of ⟨List.mem_of_getElem? (i := 45) (by decide +kernel), by decide +kernel⟩, by decide +kernel, by decide +kernel, by decide +kernel⟩
set_option maxRecDepth 100000 in
theorem kv_X6_isThere : KV yX6_isThere 6 := ⟨wT_of ⟨List.mem_of_getElem? (i := 915) (by decide +kernel), by decide +kernel⟩, wT_of ⟨List.mem_of_getElem? (i := 22) (by decide +kernel), by decide +kernel⟩, by decide⟩
abbrev rm_X6_isThere : Room := { frames := 1, cells := 0, slots := 0, locals := 25 }
set_option maxRecDepth 100000 in
theorem km_X6_isInner : KM yX6_isInner cX6_isInner 3 (some .boolean) 2 := ⟨wT_of ⟨List.mem_of_getElem? (i := 912) (by decide +kernel), by decide +kernel⟩, wT_of ⟨List.mem_of_getElem? (i := 45) (by decide +kernel), by decide +kernel⟩, by decide +kernel, by decide +kernel, by decide +kernel⟩
set_option maxRecDepth 100000 in
theorem kv_X6_isInner : KV yX6_isInner 6 := ⟨wT_of ⟨List.mem_of_getElem? (i := 911) (by decide +kernel), by decide +kernel⟩, wT_of ⟨List.mem_of_getElem? (i := 21) (by decide +kernel), by decide +kernel⟩, by decide⟩
abbrev rm_X6_isInner : Room := { frames := 2, cells := 0, slots := 0, locals := 48 }
set_option maxRecDepth 100000 in
theorem km_X6_pointOf : KM yX6_pointOf cX6_pointOf 6 (some .int) 3 := ⟨wT_of ⟨List.mem_of_getElem? (i := 908) (by decide +kernel), by decide +kernel⟩, wT_of ⟨List.mem_of_getElem? (i := 45) (by decide +kernel), by decide +kernel⟩, by decide +kernel, by decide +kernel, by decide +kernel⟩
set_option maxRecDepth 100000 in
theorem kv_X6_pointOf : KV yX6_pointOf 6 := ⟨wT_of ⟨List.mem_of_getElem? (i := 907) (by decide +kernel), by decide +kernel⟩, wT_of ⟨List.mem_of_getElem? (i := 20) (by decide +kernel), by decide +kernel⟩, by decide⟩
abbrev rm_X6_pointOf : Room := { frames := 3, cells := 0, slots := 0, locals := 70 }
set_option maxRecDepth 100000 in
theorem km_X6_turnOver : KM yX6_turnOver cX6_turnOver 6 none 3 := ⟨wT_of ⟨List.mem_of_getElem? (i := 928) (by decide +kernel), by decide +kernel⟩, wT_of ⟨List.mem_of_getElem? (i := 45) (by decide +kernel), by decide +kernel⟩, by decide +kernel, by decide +kernel, by decide +kernel⟩
set_option maxRecDepth 100000 in
theorem kv_X6_turnOver : KV yX6_turnOver 6 := ⟨wT_of ⟨List.mem_of_getElem? (i := 927) (by decide +kernel), by decide +kernel⟩, wT_of ⟨List.mem_of_getElem? (i := 23) (by decide +kernel), by decide +kernel⟩, by decide⟩
abbrev rm_X6_turnOver : Room := { frames := 0, cells := 0, slots := 0, locals := 0 }
set_option maxRecDepth 100000 in
theorem km_X6_point : KM yX6_point cX6_point 4 (some .int) 3 := ⟨wT_of ⟨List.mem_of_getElem? (i := 900) (by decide +kernel), by decide +kernel⟩, wT_of ⟨List.mem_of_getElem? (i := 45) (by decide +kernel), by decide +kernel⟩, by decide +kernel, by decide +kernel, by decide +kernel⟩
set_option maxRecDepth 100000 in
theorem kv_X6_point : KV yX6_point 6 := ⟨wT_of ⟨List.mem_of_getElem? (i := 898) (by decide +kernel), by decide +kernel⟩, wT_of ⟨List.mem_of_getElem? (i := 899) (by decide +kernel), by decide +kernel⟩, by decide⟩
abbrev rm_X6_point : Room := { frames := 4, cells := 0, slots := 0, locals := 95 }
set_option maxRecDepth 100000 in
theorem km_X6_free : KM yX6_free cX6_free 5 (some .int) 2 := ⟨wT_of ⟨List.mem_of_getElem? (i := 920) (by decide +kernel), by decide +kernel⟩, wT_of ⟨List.mem_of_getElem? (i := 45) (by decide +kernel), by decide +kernel⟩, by decide +kernel, by decide +kernel, by decide +kernel⟩
set_option maxRecDepth 100000 in
theorem kv_X6_free : KV yX6_free 6 := ⟨wT_of ⟨List.mem_of_getElem? (i := 918) (by decide +kernel), by decide +kernel⟩, wT_of ⟨List.mem_of_getElem? (i := 919) (by decide +kernel), by decide +kernel⟩, by decide⟩
abbrev rm_X6_free : Room := { frames := 4, cells := 0, slots := 0, locals := 95 }
set_option maxRecDepth 100000 in
theorem km_X6_turn : KM yX6_turn cX6_turn 5 (some .int) 3 := ⟨wT_of ⟨List.mem_of_getElem? (i := 924) (by decide +kernel), by decide +kernel⟩, wT_of ⟨List.mem_of_getElem? (i := 45) (by decide +kernel), by decide +kernel⟩, by decide +kernel, by decide +kernel, by decide +kernel⟩
set_option maxRecDepth 100000 in
theorem kv_X6_turn : KV yX6_turn 6 := ⟨wT_of ⟨List.mem_of_getElem? (i := 922) (by decide +kernel), by decide +kernel⟩, wT_of ⟨List.mem_of_getElem? (i := 923) (by decide +kernel), by decide +kernel⟩, by decide⟩
abbrev rm_X6_turn : Room := { frames := 4, cells := 0, slots := 0, locals := 95 }
set_option maxRecDepth 100000 in
theorem km_X6_crossed : KM yX6_crossed cX6_crossed 5 (some .int) 4 := ⟨wT_of ⟨List.mem_of_getElem? (i := 944) (by decide +kernel), by decide +kernel⟩, wT_of ⟨List.mem_of_getElem? (i := 45) (by decide +kernel), by decide +kernel⟩, by decide +kernel, by decide +kernel, by decide +kernel⟩
set_option maxRecDepth 100000 in
theorem kv_X6_crossed : KV yX6_crossed 6 := ⟨wT_of ⟨List.mem_of_getElem? (i := 943) (by decide +kernel), by decide +kernel⟩, wT_of ⟨List.mem_of_getElem? (i := 26) (by decide +kernel), by decide +kernel⟩, by decide⟩
abbrev rm_X6_crossed : Room := { frames := 1, cells := 0, slots := 0, locals := 25 }
set_option maxRecDepth 100000 in
theorem km_X6_step : KM yX6_step cX6_step 4 (some .boolean) 3 := ⟨wT_of ⟨List.mem_of_getElem? (i := 948) (by decide +kernel), by decide +kernel⟩, wT_of ⟨List.mem_of_getElem? (i := 45) (by decide +kernel), by decide +kernel⟩, by decide +kernel, by decide +kernel, by decide +kernel⟩
set_option maxRecDepth 100000 in
theorem kv_X6_step : KV yX6_step 6 := ⟨wT_of ⟨List.mem_of_getElem? (i := 947) (by decide +kernel), by decide +kernel⟩, wT_of ⟨List.mem_of_getElem? (i := 27) (by decide +kernel), by decide +kernel⟩, by decide⟩
abbrev rm_X6_step : Room := { frames := 0, cells := 0, slots := 0, locals := 0 }
set_option maxRecDepth 100000 in
theorem km_X6_stepCell : KM yX6_stepCell cX6_stepCell 8 (some .boolean) 4 := ⟨wT_of ⟨List.mem_of_getElem? (i := 940) (by decide +kernel), by decide +kernel⟩, wT_of ⟨List.mem_of_getElem? (i := 45) (by decide +kernel), by decide +kernel⟩, by decide +kernel, by decide +kernel, by decide +kernel⟩
set_option maxRecDepth 100000 in
theorem kv_X6_stepCell : KV yX6_stepCell 6 := ⟨wT_of ⟨List.mem_of_getElem? (i := 939) (by decide +kernel), by decide +kernel⟩, wT_of ⟨List.mem_of_getElem? (i := 25) (by decide +kernel), by decide +kernel⟩, by decide⟩
abbrev rm_X6_stepCell : Room := { frames := 2, cells := 0, slots := 0, locals := 49 }
set_option maxRecDepth 100000 in
theorem km_X6_spread : KM yX6_spread cX6_spread 5 none 2 := ⟨wT_of ⟨List.mem_of_getElem? (i := 936) (by decide +kernel), by decide +kernel⟩, wT_of ⟨List.mem_of_getElem? (i := 45) (by decide +kernel), by decide +kernel⟩, by decide +kernel, by decide +kernel, by decide +kernel⟩
set_option maxRecDepth 100000 in
theorem kv_X6_spread : KV yX6_spread 6 := ⟨wT_of ⟨List.mem_of_getElem? (i := 935) (by decide +kernel), by decide +kernel⟩, wT_of ⟨List.mem_of_getElem? (i := 24) (by decide +kernel), by decide +kernel⟩, by decide⟩
abbrev rm_X6_spread : Room := { frames := 3, cells := 0, slots := 0, locals := 76 }
set_option maxRecDepth 100000 in
theorem km_X6_apart : KM yX6_apart cX6_apart 8 (some .int) 2 := ⟨wT_of ⟨List.mem_of_getElem? (i := 932) (by decide +kernel), by decide +kernel⟩, wT_of ⟨List.mem_of_getElem? (i := 45) (by decide +kernel), by decide +kernel⟩, by decide +kernel, by decide +kernel, by decide +kernel⟩
set_option maxRecDepth 100000 in
theorem kv_X6_apart : KV yX6_apart 6 := ⟨wT_of ⟨List.mem_of_getElem? (i := 930) (by decide +kernel), by decide +kernel⟩, wT_of ⟨List.mem_of_getElem? (i := 931) (by decide +kernel), by decide +kernel⟩, by decide⟩
abbrev rm_X6_apart : Room := { frames := 4, cells := 0, slots := 0, locals := 100 }
set_option maxRecDepth 100000 in
theorem km_X6_end : KM yX6_end cX6_end 8 (some .int) 2 := ⟨wT_of ⟨List.mem_of_getElem? (i := 952) (by decide +kernel), by decide +kernel⟩, wT_of ⟨List.mem_of_getElem? (i := 45) (by decide +kernel), by decide +kernel⟩, by decide +kernel, by decide +kernel, by decide +kernel⟩
set_option maxRecDepth 100000 in
theorem kv_X6_end : KV yX6_end 6 := ⟨wT_of ⟨List.mem_of_getElem? (i := 950) (by decide +kernel), by decide +kernel⟩, wT_of ⟨List.mem_of_getElem? (i := 951) (by decide +kernel), by decide +kernel⟩, by decide⟩
abbrev rm_X6_end : Room := { frames := 4, cells := 0, slots := 0, locals := 95 }
set_option maxRecDepth 100000 in
theorem km_X6_packed : KM yX6_packed cX6_packed 7 (some .long) 2 := ⟨wT_of ⟨List.mem_of_getElem? (i := 964) (by decide +kernel), by decide +kernel⟩, wT_of ⟨List.mem_of_getElem? (i := 45) (by decide +kernel), by decide +kernel⟩, by decide +kernel, by decide +kernel, by decide +kernel⟩
set_option maxRecDepth 100000 in
theorem kv_X6_packed : KV yX6_packed 6 := ⟨wT_of ⟨List.mem_of_getElem? (i := 963) (by decide +kernel), by decide +kernel⟩, wT_of ⟨List.mem_of_getElem? (i := 29) (by decide +kernel), by decide +kernel⟩, by decide⟩
abbrev rm_X6_packed : Room := { frames := 1, cells := 0, slots := 0, locals := 20 }
set_option maxRecDepth 100000 in
theorem km_X6_unpack : KM yX6_unpack cX6_unpack 6 none 2 := ⟨wT_of ⟨List.mem_of_getElem? (i := 975) (by decide +kernel), by decide +kernel⟩, wT_of ⟨List.mem_of_getElem? (i := 45) (by decide +kernel), by decide +kernel⟩, by decide +kernel, by decide +kernel, by decide +kernel⟩
set_option maxRecDepth 100000 in
theorem kv_X6_unpack : KV yX6_unpack 6 := ⟨wT_of ⟨List.mem_of_getElem? (i := 974) (by decide +kernel), by decide +kernel⟩, wT_of ⟨List.mem_of_getElem? (i := 31) (by decide +kernel), by decide +kernel⟩, by decide⟩
abbrev rm_X6_unpack : Room := { frames := 1, cells := 0, slots := 0, locals := 20 }
set_option maxRecDepth 100000 in
theorem km_X6_meet : KM yX6_meet cX6_meet 10 (some .boolean) 1 := ⟨wT_of ⟨List.mem_of_getElem? (i := 960) (by decide +kernel), by decide +kernel⟩, wT_of ⟨List.mem_of_getElem? (i := 45) (by decide +kernel), by decide +kernel⟩, by decide +kernel, by decide +kernel, by decide +kernel⟩
set_option maxRecDepth 100000 in
theorem kv_X6_meet : KV yX6_meet 6 := ⟨wT_of ⟨List.mem_of_getElem? (i := 959) (by decide +kernel), by decide +kernel⟩, wT_of ⟨List.mem_of_getElem? (i := 28) (by decide +kernel), by decide +kernel⟩, by decide⟩
abbrev rm_X6_meet : Room := { frames := 2, cells := 0, slots := 0, locals := 46 }
set_option maxRecDepth 100000 in
theorem km_X6_meetAll : KM yX6_meetAll cX6_meetAll 6 (some .boolean) 2 := ⟨wT_of ⟨List.mem_of_getElem? (i := 971) (by decide +kernel), by decide +kernel⟩, wT_of ⟨List.mem_of_getElem? (i := 45) (by decide +kernel), by decide +kernel⟩, by decide +kernel, by decide +kernel, by decide +kernel⟩
set_option maxRecDepth 100000 in
theorem kv_X6_meetAll : KV yX6_meetAll 6 := ⟨wT_of ⟨List.mem_of_getElem? (i := 970) (by decide +kernel), by decide +kernel⟩, wT_of ⟨List.mem_of_getElem? (i := 30) (by decide +kernel), by decide +kernel⟩, by decide⟩
abbrev rm_X6_meetAll : Room := { frames := 4, cells := 0, slots := 0, locals := 95 }
set_option maxRecDepth 100000 in
theorem km_X6_reach : KM yX6_reach cX6_reach 4 (some .int) 1 := ⟨wT_of ⟨List.mem_of_getElem? (i := 956) (by decide +kernel), by decide +kernel⟩, wT_of ⟨List.mem_of_getElem? (i := 45) (by decide +kernel), by decide +kernel⟩, by decide +kernel, by decide +kernel, by decide +kernel⟩
set_option maxRecDepth 100000 in
theorem kv_X6_reach : KV yX6_reach 6 := ⟨wT_of ⟨List.mem_of_getElem? (i := 954) (by decide +kernel), by decide +kernel⟩, wT_of ⟨List.mem_of_getElem? (i := 955) (by decide +kernel), by decide +kernel⟩, by decide⟩
abbrev rm_X6_reach : Room := { frames := 5, cells := 0, slots := 0, locals := 120 }
set_option maxRecDepth 100000 in
theorem km_X6_mirror : KM yX6_mirror cX6_mirror 6 (some .int) 1 := ⟨wT_of ⟨List.mem_of_getElem? (i := 980) (by decide +kernel), by decide +kernel⟩, wT_of ⟨List.mem_of_getElem? (i := 45) (by decide +kernel), by decide +kernel⟩, by decide +kernel, by decide +kernel, by decide +kernel⟩
set_option maxRecDepth 100000 in
theorem kv_X6_mirror : KV yX6_mirror 6 := ⟨wT_of ⟨List.mem_of_getElem? (i := 978) (by decide +kernel), by decide +kernel⟩, wT_of ⟨List.mem_of_getElem? (i := 979) (by decide +kernel), by decide +kernel⟩, by decide⟩
abbrev rm_X6_mirror : Room := { frames := 2, cells := 0, slots := 0, locals := 45 }
set_option maxRecDepth 100000 in
theorem km_X6_downOf : KM yX6_downOf cX6_downOf 5 (some .int) 2 := ⟨wT_of ⟨List.mem_of_getElem? (i := 996) (by decide +kernel), by decide +kernel⟩, wT_of ⟨List.mem_of_getElem? (i := 45) (by decide +kernel), by decide +kernel⟩, by decide +kernel, by decide +kernel, by decide +kernel⟩
set_option maxRecDepth 100000 in
theorem kv_X6_downOf : KV yX6_downOf 6 := ⟨wT_of ⟨List.mem_of_getElem? (i := 995) (by decide +kernel), by decide +kernel⟩, wT_of ⟨List.mem_of_getElem? (i := 34) (by decide +kernel), by decide +kernel⟩, by decide⟩
abbrev rm_X6_downOf : Room := { frames := 2, cells := 0, slots := 0, locals := 48 }
set_option maxRecDepth 100000 in
theorem km_X6_look : KM yX6_look cX6_look 6 (some .int) 1 := ⟨wT_of ⟨List.mem_of_getElem? (i := 992) (by decide +kernel), by decide +kernel⟩, wT_of ⟨List.mem_of_getElem? (i := 45) (by decide +kernel), by decide +kernel⟩, by decide +kernel, by decide +kernel, by decide +kernel⟩
set_option maxRecDepth 100000 in
theorem kv_X6_look : KV yX6_look 6 := ⟨wT_of ⟨List.mem_of_getElem? (i := 991) (by decide +kernel), by decide +kernel⟩, wT_of ⟨List.mem_of_getElem? (i := 33) (by decide +kernel), by decide +kernel⟩, by decide⟩
abbrev rm_X6_look : Room := { frames := 3, cells := 0, slots := 0, locals := 72 }
set_option maxRecDepth 100000 in
theorem km_X6_join : KM yX6_join cX6_join 5 none 1 := ⟨wT_of ⟨List.mem_of_getElem? (i := 1000) (by decide +kernel), by decide +kernel⟩, wT_of ⟨List.mem_of_getElem? (i := 45) (by decide +kernel), by decide +kernel⟩, by decide +kernel, by decide +kernel, by decide +kernel⟩
set_option maxRecDepth 100000 in
theorem kv_X6_join : KV yX6_join 6 := ⟨wT_of ⟨List.mem_of_getElem? (i := 999) (by decide +kernel), by decide +kernel⟩, wT_of ⟨List.mem_of_getElem? (i := 35) (by decide +kernel), by decide +kernel⟩, by decide⟩
abbrev rm_X6_join : Room := { frames := 3, cells := 0, slots := 0, locals := 72 }
set_option maxRecDepth 100000 in
theorem km_X6_layMost : KM yX6_layMost cX6_layMost 3 none 0 := ⟨wT_of ⟨List.mem_of_getElem? (i := 988) (by decide +kernel), by decide +kernel⟩, wT_of ⟨List.mem_of_getElem? (i := 45) (by decide +kernel), by decide +kernel⟩, by decide +kernel, by decide +kernel, by decide +kernel⟩
set_option maxRecDepth 100000 in
theorem kv_X6_layMost : KV yX6_layMost 6 := ⟨wT_of ⟨List.mem_of_getElem? (i := 987) (by decide +kernel), by decide +kernel⟩, wT_of ⟨List.mem_of_getElem? (i := 32) (by decide +kernel), by decide +kernel⟩, by decide⟩
abbrev rm_X6_layMost : Room := { frames := 4, cells := 0, slots := 0, locals := 97 }
set_option maxRecDepth 100000 in
theorem km_X6_mostNow : KM yX6_mostNow cX6_mostNow 3 (some .int) 0 := ⟨wT_of ⟨List.mem_of_getElem? (i := 1004) (by decide +kernel), by decide +kernel⟩, wT_of ⟨List.mem_of_getElem? (i := 45) (by decide +kernel), by decide +kernel⟩, by decide +kernel, by decide +kernel, by decide +kernel⟩
set_option maxRecDepth 100000 in
theorem kv_X6_mostNow : KV yX6_mostNow 6 := ⟨wT_of ⟨List.mem_of_getElem? (i := 1003) (by decide +kernel), by decide +kernel⟩, wT_of ⟨List.mem_of_getElem? (i := 36) (by decide +kernel), by decide +kernel⟩, by decide⟩
abbrev rm_X6_mostNow : Room := { frames := 1, cells := 0, slots := 0, locals := 20 }
set_option maxRecDepth 100000 in
theorem km_X6_most : KM yX6_most cX6_most 1 (some .int) 0 := ⟨wT_of ⟨List.mem_of_getElem? (i := 984) (by decide +kernel), by decide +kernel⟩, wT_of ⟨List.mem_of_getElem? (i := 45) (by decide +kernel), by decide +kernel⟩, by decide +kernel, by decide +kernel, by decide +kernel⟩
set_option maxRecDepth 100000 in
theorem kv_X6_most : KV yX6_most 6 := ⟨wT_of ⟨List.mem_of_getElem? (i := 982) (by decide +kernel), by decide +kernel⟩, wT_of ⟨List.mem_of_getElem? (i := 983) (by decide +kernel), by decide +kernel⟩, by decide⟩
abbrev rm_X6_most : Room := { frames := 5, cells := 0, slots := 0, locals := 119 }
set_option maxRecDepth 100000 in
theorem km_X6_lack : KM yX6_lack cX6_lack 1 (some .int) 0 := ⟨wT_of ⟨List.mem_of_getElem? (i := 1008) (by decide +kernel), by decide +kernel⟩, wT_of ⟨List.mem_of_getElem? (i := 45) (by decide +kernel), by decide +kernel⟩, by decide +kernel, by decide +kernel, by decide +kernel⟩
set_option maxRecDepth 100000 in
theorem kv_X6_lack : KV yX6_lack 6 := ⟨wT_of ⟨List.mem_of_getElem? (i := 1006) (by decide +kernel), by decide +kernel⟩, wT_of ⟨List.mem_of_getElem? (i := 1007) (by decide +kernel), by decide +kernel⟩, by decide⟩
abbrev rm_X6_lack : Room := { frames := 5, cells := 0, slots := 0, locals := 119 }
set_option maxRecDepth 100000 in
theorem km_X6_layBar : KM yX6_layBar cX6_layBar 5 (some .int) 0 := ⟨wT_of ⟨List.mem_of_getElem? (i := 1016) (by decide +kernel), by decide +kernel⟩, wT_of ⟨List.mem_of_getElem? (i := 45) (by decide +kernel), by decide +kernel⟩, by decide +kernel, by decide +kernel, by decide +kernel⟩
set_option maxRecDepth 100000 in
theorem kv_X6_layBar : KV yX6_layBar 6 := ⟨wT_of ⟨List.mem_of_getElem? (i := 1015) (by decide +kernel), by decide +kernel⟩, wT_of ⟨List.mem_of_getElem? (i := 37) (by decide +kernel), by decide +kernel⟩, by decide⟩
abbrev rm_X6_layBar : Room := { frames := 5, cells := 0, slots := 0, locals := 119 }
set_option maxRecDepth 100000 in
theorem km_X6_bar : KM yX6_bar cX6_bar 2 (some .int) 0 := ⟨wT_of ⟨List.mem_of_getElem? (i := 1012) (by decide +kernel), by decide +kernel⟩, wT_of ⟨List.mem_of_getElem? (i := 45) (by decide +kernel), by decide +kernel⟩, by decide +kernel, by decide +kernel, by decide +kernel⟩
set_option maxRecDepth 100000 in
theorem kv_X6_bar : KV yX6_bar 6 := ⟨wT_of ⟨List.mem_of_getElem? (i := 1010) (by decide +kernel), by decide +kernel⟩, wT_of ⟨List.mem_of_getElem? (i := 1011) (by decide +kernel), by decide +kernel⟩, by decide⟩
abbrev rm_X6_bar : Room := { frames := 6, cells := 0, slots := 0, locals := 143 }
set_option maxRecDepth 100000 in
theorem km_X6_barred : KM yX6_barred cX6_barred 5 (some .int) 1 := ⟨wT_of ⟨List.mem_of_getElem? (i := 1020) (by decide +kernel), by decide +kernel⟩, wT_of ⟨List.mem_of_getElem? (i := 45) (by decide +kernel), by decide +kernel⟩, by decide +kernel, by decide +kernel, by decide +kernel⟩
set_option maxRecDepth 100000 in
theorem kv_X6_barred : KV yX6_barred 6 := ⟨wT_of ⟨List.mem_of_getElem? (i := 1018) (by decide +kernel), by decide +kernel⟩, wT_of ⟨List.mem_of_getElem? (i := 1019) (by decide +kernel), by decide +kernel⟩, by decide⟩
abbrev rm_X6_barred : Room := { frames := 6, cells := 0, slots := 0, locals := 143 }
