set_option maxRecDepth 100000 in
theorem ko_RX1_3 : KO RX1 3 := ⟨wT_of ⟨List.mem_of_getElem? (i := 63) (by decide +kernel), by decide +kernel⟩, wT_of ⟨List.mem_of_getElem? (i := 56) (by decide +kernel), by decide +kernel⟩, wT_of ⟨List.mem_of_getElem? (i := 57) (by decide +kernel), by decide +kernel⟩⟩
set_option maxRecDepth 100000 in
theorem ko_RX2_1 : KO RX2 1 := ⟨wT_of ⟨List.mem_of_getElem? (i := 148) (by decide +kernel), by decide +kernel⟩, wT_of ⟨List.mem_of_getElem? (i := 56) (by decide +kernel), by decide +kernel⟩, wT_of ⟨List.mem_of_getElem? (i := 57) (by decide +kernel), by decide +kernel⟩⟩
set_option maxRecDepth 100000 in
theorem ko_RX3_3 : KO RX3 3 := ⟨wT_of ⟨List.mem_of_getElem? (i := 109) (by decide +kernel), by decide +kernel⟩, wT_of ⟨List.mem_of_getElem? (i := 56) (by decide +kernel), by decide +kernel⟩, wT_of ⟨List.mem_of_getElem? (i := 57) (by decide +kernel), by decide +kernel⟩⟩
set_option maxRecDepth 100000 in
theorem ka_int : Cond.arrayClass .int ∈ wT := wT_of ⟨List.mem_of_getElem? (i := 135) (by decide +kernel), by decide +kernel⟩
set_option maxRecDepth 100000 in
theorem ff_3_0 : FF RX3 3 0 (.array .int) := ⟨rfl, rfl, by decide +kernel⟩
set_option maxRecDepth 100000 in
theorem ff_3_1 : FF RX3 3 1 (.array .int) := ⟨rfl, rfl, by decide +kernel⟩
set_option maxRecDepth 100000 in
theorem ff_3_2 : FF RX3 3 2 (.array .int) := ⟨rfl, rfl, by decide +kernel⟩
set_option maxRecDepth 100000 in
theorem ka_long : Cond.arrayClass .long ∈ wT := wT_of ⟨List.mem_of_getElem? (i := 136) (by decide +kernel), by decide +kernel⟩
set_option maxRecDepth 100000 in
theorem ff_3_3 : FF RX3 3 3 (.array .long) := ⟨rfl, rfl, by decide +kernel⟩
set_option maxRecDepth 100000 in
theorem ff_3_4 : FF RX3 3 4 (.array .long) := ⟨rfl, rfl, by decide +kernel⟩
set_option maxRecDepth 100000 in
theorem ff_3_5 : FF RX3 3 5 (.array .int) := ⟨rfl, rfl, by decide +kernel⟩
set_option maxRecDepth 100000 in
theorem ff_3_6 : FF RX3 3 6 (.array .int) := ⟨rfl, rfl, by decide +kernel⟩
set_option maxRecDepth 100000 in
theorem ko_RX0_3 : KO RX0 3 := ⟨wT_of ⟨List.mem_of_getElem? (i := 142) (by decide +kernel), by decide +kernel⟩, wT_of ⟨List.mem_of_getElem? (i := 56) (by decide +kernel), by decide +kernel⟩, wT_of ⟨List.mem_of_getElem? (i := 57) (by decide +kernel), by decide +kernel⟩⟩
set_option maxRecDepth 100000 in
theorem kn_RX0_9 : KN RX0 9 2 := ⟨wT_of ⟨List.mem_of_getElem? (i := 143) (by decide +kernel), by decide +kernel⟩, wT_of ⟨List.mem_of_getElem? (i := 144) (by decide +kernel), by decide +kernel⟩, wT_of ⟨List.mem_of_getElem? (i := 43) (by decide +kernel), by decide +kernel⟩, by decide⟩
set_option maxRecDepth 100000 in
theorem ff_0_0 : FF RX0 0 0 (.object "LozengeGrounds$Laying") := ⟨rfl, rfl, by decide +kernel⟩
set_option maxRecDepth 100000 in
theorem ff_0_1 : FF RX0 0 1 (.array .long) := ⟨rfl, rfl, by decide +kernel⟩
set_option maxRecDepth 100000 in
theorem ko_RX4_3 : KO RX4 3 := ⟨wT_of ⟨List.mem_of_getElem? (i := 187) (by decide +kernel), by decide +kernel⟩, wT_of ⟨List.mem_of_getElem? (i := 56) (by decide +kernel), by decide +kernel⟩, wT_of ⟨List.mem_of_getElem? (i := 57) (by decide +kernel), by decide +kernel⟩⟩
set_option maxRecDepth 100000 in
theorem kn_RX4_9 : KN RX4 9 2 := ⟨wT_of ⟨List.mem_of_getElem? (i := 188) (by decide +kernel), by decide +kernel⟩, wT_of ⟨List.mem_of_getElem? (i := 144) (by decide +kernel), by decide +kernel⟩, wT_of ⟨List.mem_of_getElem? (i := 43) (by decide +kernel), by decide +kernel⟩, by decide⟩
set_option maxRecDepth 100000 in
theorem ff_4_0 : FF RX4 4 0 (.object "LozengeGrounds$Laying") := ⟨rfl, rfl, by decide +kernel⟩
set_option maxRecDepth 100000 in
theorem ff_4_1 : FF RX4 4 1 (.object "LozengeGrounds$Laying") := ⟨rfl, rfl, by decide +kernel⟩
set_option maxRecDepth 100000 in
theorem ff_4_2 : FF RX4 4 2 (.object "LozengeGrounds$Laying") := ⟨rfl, rfl, by decide +kernel⟩
set_option maxRecDepth 100000 in
theorem ff_4_3 : FF RX4 4 3 (.array .int) := ⟨rfl, rfl, by decide +kernel⟩
set_option maxRecDepth 100000 in
theorem ko_RX5_3 : KO RX5 3 := ⟨wT_of ⟨List.mem_of_getElem? (i := 55) (by decide +kernel), by decide +kernel⟩, wT_of ⟨List.mem_of_getElem? (i := 56) (by decide +kernel), by decide +kernel⟩, wT_of ⟨List.mem_of_getElem? (i := 57) (by decide +kernel), by decide +kernel⟩⟩
set_option maxRecDepth 100000 in
theorem kn_RX5_9 : KN RX5 9 1 := ⟨wT_of ⟨List.mem_of_getElem? (i := 58) (by decide +kernel), by decide +kernel⟩, wT_of ⟨List.mem_of_getElem? (i := 59) (by decide +kernel), by decide +kernel⟩, wT_of ⟨List.mem_of_getElem? (i := 40) (by decide +kernel), by decide +kernel⟩, by decide⟩
set_option maxRecDepth 100000 in
theorem ff_5_0 : FF RX5 5 0 (.object "LozengeGrounds$Land") := ⟨rfl, rfl, by decide +kernel⟩
set_option maxRecDepth 100000 in
theorem kn_RX5_16 : KN RX5 16 3 := ⟨wT_of ⟨List.mem_of_getElem? (i := 104) (by decide +kernel), by decide +kernel⟩, wT_of ⟨List.mem_of_getElem? (i := 105) (by decide +kernel), by decide +kernel⟩, wT_of ⟨List.mem_of_getElem? (i := 41) (by decide +kernel), by decide +kernel⟩, by decide⟩
set_option maxRecDepth 100000 in
theorem ff_5_1 : FF RX5 5 1 (.object "LozengeGrounds$Steps") := ⟨rfl, rfl, by decide +kernel⟩
set_option maxRecDepth 100000 in
theorem kn_RX5_23 : KN RX5 23 0 := ⟨wT_of ⟨List.mem_of_getElem? (i := 137) (by decide +kernel), by decide +kernel⟩, wT_of ⟨List.mem_of_getElem? (i := 138) (by decide +kernel), by decide +kernel⟩, wT_of ⟨List.mem_of_getElem? (i := 42) (by decide +kernel), by decide +kernel⟩, by decide⟩
set_option maxRecDepth 100000 in
theorem ff_5_2 : FF RX5 5 2 (.object "LozengeGrounds$Joining") := ⟨rfl, rfl, by decide +kernel⟩
set_option maxRecDepth 100000 in
theorem kn_RX5_30 : KN RX5 30 4 := ⟨wT_of ⟨List.mem_of_getElem? (i := 182) (by decide +kernel), by decide +kernel⟩, wT_of ⟨List.mem_of_getElem? (i := 183) (by decide +kernel), by decide +kernel⟩, wT_of ⟨List.mem_of_getElem? (i := 44) (by decide +kernel), by decide +kernel⟩, by decide⟩
set_option maxRecDepth 100000 in
theorem ff_5_3 : FF RX5 5 3 (.object "LozengeGrounds$Turner") := ⟨rfl, rfl, by decide +kernel⟩
set_option maxRecDepth 100000 in
theorem kc_RX5_37 : Cond.classLink RX5 37 RX2 ∈ wT := wT_of ⟨List.mem_of_getElem? (i := 206) (by decide +kernel), by decide +kernel⟩
set_option maxRecDepth 100000 in
theorem ff_5_4 : FF RX5 5 4 (.array (.object RX2)) := ⟨rfl, rfl, by decide +kernel⟩
set_option maxRecDepth 100000 in
theorem kn_RX5_37 : KN RX5 37 2 := ⟨wT_of ⟨List.mem_of_getElem? (i := 206) (by decide +kernel), by decide +kernel⟩, wT_of ⟨List.mem_of_getElem? (i := 144) (by decide +kernel), by decide +kernel⟩, wT_of ⟨List.mem_of_getElem? (i := 43) (by decide +kernel), by decide +kernel⟩, by decide⟩
set_option maxRecDepth 100000 in
theorem ff_5_5 : FF RX5 5 5 (.object "LozengeGrounds$Laying") := ⟨rfl, rfl, by decide +kernel⟩
set_option maxRecDepth 100000 in
theorem ff_5_6 : FF RX5 5 6 (.array .int) := ⟨rfl, rfl, by decide +kernel⟩
set_option maxRecDepth 100000 in
theorem ff_5_7 : FF RX5 5 7 (.array .int) := ⟨rfl, rfl, by decide +kernel⟩
set_option maxRecDepth 100000 in
theorem ko_RX6_1 : KO RX6 1 := ⟨wT_of ⟨List.mem_of_getElem? (i := 662) (by decide +kernel), by decide +kernel⟩, wT_of ⟨List.mem_of_getElem? (i := 56) (by decide +kernel), by decide +kernel⟩, wT_of ⟨List.mem_of_getElem? (i := 57) (by decide +kernel), by decide +kernel⟩⟩
set_option maxRecDepth 100000 in
theorem ka_boolean : Cond.arrayClass .boolean ∈ wT := wT_of ⟨List.mem_of_getElem? (i := 735) (by decide +kernel), by decide +kernel⟩
set_option maxRecDepth 100000 in
theorem ff_6_2 : FF RX6 6 2 (.array .boolean) := ⟨rfl, rfl, by decide +kernel⟩
set_option maxRecDepth 100000 in
theorem ff_6_3 : FF RX6 6 3 (.array .int) := ⟨rfl, rfl, by decide +kernel⟩
set_option maxRecDepth 100000 in
theorem ff_6_4 : FF RX6 6 4 (.array .boolean) := ⟨rfl, rfl, by decide +kernel⟩
set_option maxRecDepth 100000 in
theorem ff_6_5 : FF RX6 6 5 (.array .int) := ⟨rfl, rfl, by decide +kernel⟩
set_option maxRecDepth 100000 in
theorem ff_6_6 : FF RX6 6 6 (.array .long) := ⟨rfl, rfl, by decide +kernel⟩
set_option maxRecDepth 100000 in
theorem ff_6_7 : FF RX6 6 7 (.array .long) := ⟨rfl, rfl, by decide +kernel⟩
set_option maxRecDepth 100000 in
theorem ff_6_8 : FF RX6 6 8 (.array .int) := ⟨rfl, rfl, by decide +kernel⟩
set_option maxRecDepth 100000 in
theorem ff_6_9 : FF RX6 6 9 (.array .int) := ⟨rfl, rfl, by decide +kernel⟩
set_option maxRecDepth 100000 in
theorem ff_6_10 : FF RX6 6 10 (.array .boolean) := ⟨rfl, rfl, by decide +kernel⟩
set_option maxRecDepth 100000 in
theorem ff_6_11 : FF RX6 6 11 (.array .long) := ⟨rfl, rfl, by decide +kernel⟩
set_option maxRecDepth 100000 in
theorem ff_6_12 : FF RX6 6 12 (.array .long) := ⟨rfl, rfl, by decide +kernel⟩
set_option maxRecDepth 100000 in
theorem ff_6_13 : FF RX6 6 13 (.array .int) := ⟨rfl, rfl, by decide +kernel⟩
set_option maxRecDepth 100000 in
theorem ff_6_15 : FF RX6 6 15 (.array .int) := ⟨rfl, rfl, by decide +kernel⟩
set_option maxRecDepth 100000 in
theorem ff_6_16 : FF RX6 6 16 (.array .int) := ⟨rfl, rfl, by decide +kernel⟩
set_option maxRecDepth 100000 in
theorem ff_6_17 : FF RX6 6 17 (.array .int) := ⟨rfl, rfl, by decide +kernel⟩
set_option maxRecDepth 100000 in
theorem ff_6_18 : FF RX6 6 18 (.array .boolean) := ⟨rfl, rfl, by decide +kernel⟩
set_option maxRecDepth 100000 in
theorem ff_6_19 : FF RX6 6 19 (.array .int) := ⟨rfl, rfl, by decide +kernel⟩
set_option maxRecDepth 100000 in
theorem ff_6_20 : FF RX6 6 20 (.array .int) := ⟨rfl, rfl, by decide +kernel⟩
set_option maxRecDepth 100000 in
theorem km_X0_init : KM yX0_init cX0_init 1 none 0 := ⟨wT_of ⟨List.mem_of_getElem? (i := 141) (by decide +kernel), by decide +kernel⟩, wT_of ⟨List.mem_of_getElem? (i := 42) (by decide +kernel), by decide +kernel⟩, by decide +kernel, by decide +kernel, by decide +kernel⟩
set_option maxRecDepth 100000 in
theorem im_X0_init : Cond.instanceMethod yX0_init ∈ wT := wT_of ⟨List.mem_of_getElem? (i := 140) (by decide +kernel), by decide +kernel⟩
set_option maxRecDepth 100000 in
theorem km_X1_init : KM yX1_init cX1_init 1 none 0 := ⟨wT_of ⟨List.mem_of_getElem? (i := 62) (by decide +kernel), by decide +kernel⟩, wT_of ⟨List.mem_of_getElem? (i := 40) (by decide +kernel), by decide +kernel⟩, by decide +kernel, by decide +kernel, by decide +kernel⟩
set_option maxRecDepth 100000 in
theorem im_X1_init : Cond.instanceMethod yX1_init ∈ wT := wT_of ⟨List.mem_of_getElem? (i := 61) (by decide +kernel), by decide +kernel⟩
set_option maxRecDepth 100000 in
theorem km_X2_init : KM yX2_init cX2_init 1 none 0 := ⟨wT_of ⟨List.mem_of_getElem? (i := 147) (by decide +kernel), by decide +kernel⟩, wT_of ⟨List.mem_of_getElem? (i := 43) (by decide +kernel), by decide +kernel⟩, by decide +kernel, by decide +kernel, by decide +kernel⟩
set_option maxRecDepth 100000 in
theorem im_X2_init : Cond.instanceMethod yX2_init ∈ wT := wT_of ⟨List.mem_of_getElem? (i := 146) (by decide +kernel), by decide +kernel⟩
set_option maxRecDepth 100000 in
theorem km_X3_init : KM yX3_init cX3_init 1 none 0 := ⟨wT_of ⟨List.mem_of_getElem? (i := 108) (by decide +kernel), by decide +kernel⟩, wT_of ⟨List.mem_of_getElem? (i := 41) (by decide +kernel), by decide +kernel⟩, by decide +kernel, by decide +kernel, by decide +kernel⟩
set_option maxRecDepth 100000 in
theorem im_X3_init : Cond.instanceMethod yX3_init ∈ wT := wT_of ⟨List.mem_of_getElem? (i := 107) (by decide +kernel), by decide +kernel⟩
set_option maxRecDepth 100000 in
theorem km_X4_init : KM yX4_init cX4_init 1 none 0 := ⟨wT_of ⟨List.mem_of_getElem? (i := 186) (by decide +kernel), by decide +kernel⟩, wT_of ⟨List.mem_of_getElem? (i := 44) (by decide +kernel), by decide +kernel⟩, by decide +kernel, by decide +kernel, by decide +kernel⟩
set_option maxRecDepth 100000 in
theorem im_X4_init : Cond.instanceMethod yX4_init ∈ wT := wT_of ⟨List.mem_of_getElem? (i := 185) (by decide +kernel), by decide +kernel⟩
set_option maxRecDepth 100000 in
theorem km_X5_init : KM yX5_init cX5_init 2 none 0 := ⟨wT_of ⟨List.mem_of_getElem? (i := 54) (by decide +kernel), by decide +kernel⟩, wT_of ⟨List.mem_of_getElem? (i := 39) (by decide +kernel), by decide +kernel⟩, by decide +kernel, by decide +kernel, by decide +kernel⟩
set_option maxRecDepth 100000 in
theorem im_X5_init : Cond.instanceMethod yX5_init ∈ wT := wT_of ⟨List.mem_of_getElem? (i := 53) (by decide +kernel), by decide +kernel⟩
set_option maxRecDepth 100000 in
theorem km_X6_init : KM yX6_init cX6_init 1 none 0 := ⟨wT_of ⟨List.mem_of_getElem? (i := 661) (by decide +kernel), by decide +kernel⟩, wT_of ⟨List.mem_of_getElem? (i := 45) (by decide +kernel), by decide +kernel⟩, by decide +kernel, by decide +kernel, by decide +kernel⟩
set_option maxRecDepth 100000 in
theorem im_X6_init : Cond.instanceMethod yX6_init ∈ wT := wT_of ⟨List.mem_of_getElem? (i := 660) (by decide +kernel), by decide +kernel⟩
theorem dX0_init_0 : decode cX0_init 0 = .ok (.aload_n 0, 1) := by decide +kernel
theorem dX0_init_1 : decode cX0_init 1 = .ok (.invokespecial 3, 3) := by decide +kernel
theorem dX0_init_4 : decode cX0_init 4 = .ok (.aload_n 0, 1) := by decide +kernel
theorem dX0_init_5 : decode cX0_init 5 = .ok (.new 9, 3) := by decide +kernel
theorem dX0_init_8 : decode cX0_init 8 = .ok (.dup, 1) := by decide +kernel
theorem dX0_init_9 : decode cX0_init 9 = .ok (.invokespecial 11, 3) := by decide +kernel
theorem dX0_init_12 : decode cX0_init 12 = .ok (.putfield 12, 3) := by decide +kernel
theorem dX0_init_15 : decode cX0_init 15 = .ok (.aload_n 0, 1) := by decide +kernel
theorem dX0_init_16 : decode cX0_init 16 = .ok (.bipush 65, 2) := by decide +kernel
theorem dX0_init_18 : decode cX0_init 18 = .ok (.newarray .long, 2) := by decide +kernel
theorem dX0_init_20 : decode cX0_init 20 = .ok (.putfield 18, 3) := by decide +kernel
theorem dX0_init_23 : decode cX0_init 23 = .ok (.return_, 1) := by decide +kernel
theorem dX1_init_0 : decode cX1_init 0 = .ok (.aload_n 0, 1) := by decide +kernel
theorem dX1_init_1 : decode cX1_init 1 = .ok (.invokespecial 3, 3) := by decide +kernel
theorem dX1_init_4 : decode cX1_init 4 = .ok (.return_, 1) := by decide +kernel
theorem dX2_init_0 : decode cX2_init 0 = .ok (.aload_n 0, 1) := by decide +kernel
theorem dX2_init_1 : decode cX2_init 1 = .ok (.invokespecial 1, 3) := by decide +kernel
theorem dX2_init_4 : decode cX2_init 4 = .ok (.return_, 1) := by decide +kernel
theorem dX3_init_0 : decode cX3_init 0 = .ok (.aload_n 0, 1) := by decide +kernel
theorem dX3_init_1 : decode cX3_init 1 = .ok (.invokespecial 3, 3) := by decide +kernel
theorem dX3_init_4 : decode cX3_init 4 = .ok (.aload_n 0, 1) := by decide +kernel
theorem dX3_init_5 : decode cX3_init 5 = .ok (.bipush 66, 2) := by decide +kernel
theorem dX3_init_7 : decode cX3_init 7 = .ok (.newarray .int, 2) := by decide +kernel
theorem dX3_init_9 : decode cX3_init 9 = .ok (.putfield 9, 3) := by decide +kernel
theorem dX3_init_12 : decode cX3_init 12 = .ok (.aload_n 0, 1) := by decide +kernel
theorem dX3_init_13 : decode cX3_init 13 = .ok (.sipush 4550, 3) := by decide +kernel
theorem dX3_init_16 : decode cX3_init 16 = .ok (.newarray .int, 2) := by decide +kernel
theorem dX3_init_18 : decode cX3_init 18 = .ok (.putfield 15, 3) := by decide +kernel
theorem dX3_init_21 : decode cX3_init 21 = .ok (.aload_n 0, 1) := by decide +kernel
theorem dX3_init_22 : decode cX3_init 22 = .ok (.sipush 13650, 3) := by decide +kernel
theorem dX3_init_25 : decode cX3_init 25 = .ok (.newarray .int, 2) := by decide +kernel
theorem dX3_init_27 : decode cX3_init 27 = .ok (.putfield 18, 3) := by decide +kernel
theorem dX3_init_30 : decode cX3_init 30 = .ok (.aload_n 0, 1) := by decide +kernel
theorem dX3_init_31 : decode cX3_init 31 = .ok (.sipush 4550, 3) := by decide +kernel
theorem dX3_init_34 : decode cX3_init 34 = .ok (.newarray .long, 2) := by decide +kernel
theorem dX3_init_36 : decode cX3_init 36 = .ok (.putfield 21, 3) := by decide +kernel
theorem dX3_init_39 : decode cX3_init 39 = .ok (.aload_n 0, 1) := by decide +kernel
theorem dX3_init_40 : decode cX3_init 40 = .ok (.sipush 4550, 3) := by decide +kernel
theorem dX3_init_43 : decode cX3_init 43 = .ok (.newarray .long, 2) := by decide +kernel
theorem dX3_init_45 : decode cX3_init 45 = .ok (.putfield 25, 3) := by decide +kernel
theorem dX3_init_48 : decode cX3_init 48 = .ok (.aload_n 0, 1) := by decide +kernel
theorem dX3_init_49 : decode cX3_init 49 = .ok (.sipush 4550, 3) := by decide +kernel
theorem dX3_init_52 : decode cX3_init 52 = .ok (.newarray .int, 2) := by decide +kernel
theorem dX3_init_54 : decode cX3_init 54 = .ok (.putfield 28, 3) := by decide +kernel
theorem dX3_init_57 : decode cX3_init 57 = .ok (.aload_n 0, 1) := by decide +kernel
theorem dX3_init_58 : decode cX3_init 58 = .ok (.sipush 256, 3) := by decide +kernel
theorem dX3_init_61 : decode cX3_init 61 = .ok (.newarray .int, 2) := by decide +kernel
theorem dX3_init_63 : decode cX3_init 63 = .ok (.putfield 31, 3) := by decide +kernel
theorem dX3_init_66 : decode cX3_init 66 = .ok (.return_, 1) := by decide +kernel
theorem dX4_init_0 : decode cX4_init 0 = .ok (.aload_n 0, 1) := by decide +kernel
theorem dX4_init_1 : decode cX4_init 1 = .ok (.invokespecial 3, 3) := by decide +kernel
theorem dX4_init_4 : decode cX4_init 4 = .ok (.aload_n 0, 1) := by decide +kernel
theorem dX4_init_5 : decode cX4_init 5 = .ok (.new 9, 3) := by decide +kernel
theorem dX4_init_8 : decode cX4_init 8 = .ok (.dup, 1) := by decide +kernel
theorem dX4_init_9 : decode cX4_init 9 = .ok (.invokespecial 11, 3) := by decide +kernel
theorem dX4_init_12 : decode cX4_init 12 = .ok (.putfield 12, 3) := by decide +kernel
theorem dX4_init_15 : decode cX4_init 15 = .ok (.aload_n 0, 1) := by decide +kernel
theorem dX4_init_16 : decode cX4_init 16 = .ok (.new 9, 3) := by decide +kernel
theorem dX4_init_19 : decode cX4_init 19 = .ok (.dup, 1) := by decide +kernel
theorem dX4_init_20 : decode cX4_init 20 = .ok (.invokespecial 11, 3) := by decide +kernel
theorem dX4_init_23 : decode cX4_init 23 = .ok (.putfield 18, 3) := by decide +kernel
theorem dX4_init_26 : decode cX4_init 26 = .ok (.aload_n 0, 1) := by decide +kernel
theorem dX4_init_27 : decode cX4_init 27 = .ok (.new 9, 3) := by decide +kernel
theorem dX4_init_30 : decode cX4_init 30 = .ok (.dup, 1) := by decide +kernel
theorem dX4_init_31 : decode cX4_init 31 = .ok (.invokespecial 11, 3) := by decide +kernel
theorem dX4_init_34 : decode cX4_init 34 = .ok (.putfield 21, 3) := by decide +kernel
theorem dX4_init_37 : decode cX4_init 37 = .ok (.aload_n 0, 1) := by decide +kernel
theorem dX4_init_38 : decode cX4_init 38 = .ok (.bipush 64, 2) := by decide +kernel
theorem dX4_init_40 : decode cX4_init 40 = .ok (.newarray .int, 2) := by decide +kernel
theorem dX4_init_42 : decode cX4_init 42 = .ok (.putfield 24, 3) := by decide +kernel
theorem dX4_init_45 : decode cX4_init 45 = .ok (.return_, 1) := by decide +kernel
theorem dX5_init_0 : decode cX5_init 0 = .ok (.aload_n 0, 1) := by decide +kernel
theorem dX5_init_1 : decode cX5_init 1 = .ok (.invokespecial 3, 3) := by decide +kernel
theorem dX5_init_4 : decode cX5_init 4 = .ok (.aload_n 0, 1) := by decide +kernel
theorem dX5_init_5 : decode cX5_init 5 = .ok (.new 9, 3) := by decide +kernel
theorem dX5_init_8 : decode cX5_init 8 = .ok (.dup, 1) := by decide +kernel
theorem dX5_init_9 : decode cX5_init 9 = .ok (.invokespecial 11, 3) := by decide +kernel
theorem dX5_init_12 : decode cX5_init 12 = .ok (.putfield 12, 3) := by decide +kernel
theorem dX5_init_15 : decode cX5_init 15 = .ok (.aload_n 0, 1) := by decide +kernel
theorem dX5_init_16 : decode cX5_init 16 = .ok (.new 16, 3) := by decide +kernel
theorem dX5_init_19 : decode cX5_init 19 = .ok (.dup, 1) := by decide +kernel
theorem dX5_init_20 : decode cX5_init 20 = .ok (.invokespecial 18, 3) := by decide +kernel
theorem dX5_init_23 : decode cX5_init 23 = .ok (.putfield 19, 3) := by decide +kernel
theorem dX5_init_26 : decode cX5_init 26 = .ok (.aload_n 0, 1) := by decide +kernel
theorem dX5_init_27 : decode cX5_init 27 = .ok (.new 23, 3) := by decide +kernel
theorem dX5_init_30 : decode cX5_init 30 = .ok (.dup, 1) := by decide +kernel
theorem dX5_init_31 : decode cX5_init 31 = .ok (.invokespecial 25, 3) := by decide +kernel
theorem dX5_init_34 : decode cX5_init 34 = .ok (.putfield 26, 3) := by decide +kernel
theorem dX5_init_37 : decode cX5_init 37 = .ok (.aload_n 0, 1) := by decide +kernel
theorem dX5_init_38 : decode cX5_init 38 = .ok (.new 30, 3) := by decide +kernel
theorem dX5_init_41 : decode cX5_init 41 = .ok (.dup, 1) := by decide +kernel
theorem dX5_init_42 : decode cX5_init 42 = .ok (.invokespecial 32, 3) := by decide +kernel
theorem dX5_init_45 : decode cX5_init 45 = .ok (.putfield 33, 3) := by decide +kernel
theorem dX5_init_48 : decode cX5_init 48 = .ok (.aload_n 0, 1) := by decide +kernel
theorem dX5_init_49 : decode cX5_init 49 = .ok (.iconst 4, 1) := by decide +kernel
theorem dX5_init_50 : decode cX5_init 50 = .ok (.anewarray 37, 3) := by decide +kernel
theorem dX5_init_53 : decode cX5_init 53 = .ok (.putfield 39, 3) := by decide +kernel
theorem dX5_init_56 : decode cX5_init 56 = .ok (.iconst 0, 1) := by decide +kernel
theorem dX5_init_57 : decode cX5_init 57 = .ok (.istore_n 1, 1) := by decide +kernel
theorem dX5_init_58 : decode cX5_init 58 = .ok (.iload_n 1, 1) := by decide +kernel
theorem dX5_init_59 : decode cX5_init 59 = .ok (.iconst 4, 1) := by decide +kernel
theorem dX5_init_60 : decode cX5_init 60 = .ok (.if_icmp .ge 22, 3) := by decide +kernel
theorem dX5_init_63 : decode cX5_init 63 = .ok (.aload_n 0, 1) := by decide +kernel
theorem dX5_init_64 : decode cX5_init 64 = .ok (.getfield 39, 3) := by decide +kernel
theorem dX5_init_67 : decode cX5_init 67 = .ok (.iload_n 1, 1) := by decide +kernel
theorem dX5_init_68 : decode cX5_init 68 = .ok (.new 37, 3) := by decide +kernel
theorem dX5_init_71 : decode cX5_init 71 = .ok (.dup, 1) := by decide +kernel
theorem dX5_init_72 : decode cX5_init 72 = .ok (.invokespecial 43, 3) := by decide +kernel
theorem dX5_init_75 : decode cX5_init 75 = .ok (.aastore, 1) := by decide +kernel
theorem dX5_init_76 : decode cX5_init 76 = .ok (.iinc 1 1, 3) := by decide +kernel
theorem dX5_init_79 : decode cX5_init 79 = .ok (.goto (-21), 3) := by decide +kernel
theorem dX5_init_82 : decode cX5_init 82 = .ok (.aload_n 0, 1) := by decide +kernel
theorem dX5_init_83 : decode cX5_init 83 = .ok (.new 37, 3) := by decide +kernel
theorem dX5_init_86 : decode cX5_init 86 = .ok (.dup, 1) := by decide +kernel
theorem dX5_init_87 : decode cX5_init 87 = .ok (.invokespecial 43, 3) := by decide +kernel
theorem dX5_init_90 : decode cX5_init 90 = .ok (.putfield 44, 3) := by decide +kernel
theorem dX5_init_93 : decode cX5_init 93 = .ok (.aload_n 0, 1) := by decide +kernel
theorem dX5_init_94 : decode cX5_init 94 = .ok (.sipush 192, 3) := by decide +kernel
theorem dX5_init_97 : decode cX5_init 97 = .ok (.newarray .int, 2) := by decide +kernel
theorem dX5_init_99 : decode cX5_init 99 = .ok (.putfield 48, 3) := by decide +kernel
theorem dX5_init_102 : decode cX5_init 102 = .ok (.aload_n 0, 1) := by decide +kernel
theorem dX5_init_103 : decode cX5_init 103 = .ok (.sipush 192, 3) := by decide +kernel
theorem dX5_init_106 : decode cX5_init 106 = .ok (.newarray .int, 2) := by decide +kernel
theorem dX5_init_108 : decode cX5_init 108 = .ok (.putfield 52, 3) := by decide +kernel
theorem dX5_init_111 : decode cX5_init 111 = .ok (.aload_n 0, 1) := by decide +kernel
theorem dX5_init_112 : decode cX5_init 112 = .ok (.getfield 12, 3) := by decide +kernel
theorem dX5_init_115 : decode cX5_init 115 = .ok (.iconst 4, 1) := by decide +kernel
theorem dX5_init_116 : decode cX5_init 116 = .ok (.iconst 4, 1) := by decide +kernel
theorem dX5_init_117 : decode cX5_init 117 = .ok (.invokevirtual 55, 3) := by decide +kernel
theorem dX5_init_120 : decode cX5_init 120 = .ok (.return_, 1) := by decide +kernel
theorem dX6_init_0 : decode cX6_init 0 = .ok (.aload_n 0, 1) := by decide +kernel
theorem dX6_init_1 : decode cX6_init 1 = .ok (.invokespecial 1, 3) := by decide +kernel
theorem dX6_init_4 : decode cX6_init 4 = .ok (.aload_n 0, 1) := by decide +kernel
theorem dX6_init_5 : decode cX6_init 5 = .ok (.sipush 128, 3) := by decide +kernel
theorem dX6_init_8 : decode cX6_init 8 = .ok (.newarray .boolean, 2) := by decide +kernel
theorem dX6_init_10 : decode cX6_init 10 = .ok (.putfield 7, 3) := by decide +kernel
theorem dX6_init_13 : decode cX6_init 13 = .ok (.aload_n 0, 1) := by decide +kernel
theorem dX6_init_14 : decode cX6_init 14 = .ok (.sipush 192, 3) := by decide +kernel
theorem dX6_init_17 : decode cX6_init 17 = .ok (.newarray .int, 2) := by decide +kernel
theorem dX6_init_19 : decode cX6_init 19 = .ok (.putfield 13, 3) := by decide +kernel
theorem dX6_init_22 : decode cX6_init 22 = .ok (.aload_n 0, 1) := by decide +kernel
theorem dX6_init_23 : decode cX6_init 23 = .ok (.iconst 4, 1) := by decide +kernel
theorem dX6_init_24 : decode cX6_init 24 = .ok (.newarray .boolean, 2) := by decide +kernel
theorem dX6_init_26 : decode cX6_init 26 = .ok (.putfield 17, 3) := by decide +kernel
theorem dX6_init_29 : decode cX6_init 29 = .ok (.aload_n 0, 1) := by decide +kernel
theorem dX6_init_30 : decode cX6_init 30 = .ok (.sipush 256, 3) := by decide +kernel
theorem dX6_init_33 : decode cX6_init 33 = .ok (.newarray .int, 2) := by decide +kernel
theorem dX6_init_35 : decode cX6_init 35 = .ok (.putfield 20, 3) := by decide +kernel
theorem dX6_init_38 : decode cX6_init 38 = .ok (.aload_n 0, 1) := by decide +kernel
theorem dX6_init_39 : decode cX6_init 39 = .ok (.sipush 16640, 3) := by decide +kernel
theorem dX6_init_42 : decode cX6_init 42 = .ok (.newarray .long, 2) := by decide +kernel
theorem dX6_init_44 : decode cX6_init 44 = .ok (.putfield 23, 3) := by decide +kernel
theorem dX6_init_47 : decode cX6_init 47 = .ok (.aload_n 0, 1) := by decide +kernel
theorem dX6_init_48 : decode cX6_init 48 = .ok (.sipush 16640, 3) := by decide +kernel
theorem dX6_init_51 : decode cX6_init 51 = .ok (.newarray .long, 2) := by decide +kernel
theorem dX6_init_53 : decode cX6_init 53 = .ok (.putfield 27, 3) := by decide +kernel
theorem dX6_init_56 : decode cX6_init 56 = .ok (.aload_n 0, 1) := by decide +kernel
theorem dX6_init_57 : decode cX6_init 57 = .ok (.sipush 16640, 3) := by decide +kernel
theorem dX6_init_60 : decode cX6_init 60 = .ok (.newarray .int, 2) := by decide +kernel
theorem dX6_init_62 : decode cX6_init 62 = .ok (.putfield 30, 3) := by decide +kernel
theorem dX6_init_65 : decode cX6_init 65 = .ok (.aload_n 0, 1) := by decide +kernel
theorem dX6_init_66 : decode cX6_init 66 = .ok (.bipush 81, 2) := by decide +kernel
theorem dX6_init_68 : decode cX6_init 68 = .ok (.newarray .int, 2) := by decide +kernel
theorem dX6_init_70 : decode cX6_init 70 = .ok (.putfield 33, 3) := by decide +kernel
theorem dX6_init_73 : decode cX6_init 73 = .ok (.aload_n 0, 1) := by decide +kernel
theorem dX6_init_74 : decode cX6_init 74 = .ok (.bipush 81, 2) := by decide +kernel
theorem dX6_init_76 : decode cX6_init 76 = .ok (.newarray .boolean, 2) := by decide +kernel
theorem dX6_init_78 : decode cX6_init 78 = .ok (.putfield 36, 3) := by decide +kernel
theorem dX6_init_81 : decode cX6_init 81 = .ok (.aload_n 0, 1) := by decide +kernel
theorem dX6_init_82 : decode cX6_init 82 = .ok (.sipush 2001, 3) := by decide +kernel
theorem dX6_init_85 : decode cX6_init 85 = .ok (.newarray .long, 2) := by decide +kernel
theorem dX6_init_87 : decode cX6_init 87 = .ok (.putfield 39, 3) := by decide +kernel
theorem dX6_init_90 : decode cX6_init 90 = .ok (.aload_n 0, 1) := by decide +kernel
theorem dX6_init_91 : decode cX6_init 91 = .ok (.sipush 2001, 3) := by decide +kernel
theorem dX6_init_94 : decode cX6_init 94 = .ok (.newarray .long, 2) := by decide +kernel
theorem dX6_init_96 : decode cX6_init 96 = .ok (.putfield 42, 3) := by decide +kernel
theorem dX6_init_99 : decode cX6_init 99 = .ok (.aload_n 0, 1) := by decide +kernel
theorem dX6_init_100 : decode cX6_init 100 = .ok (.sipush 4096, 3) := by decide +kernel
theorem dX6_init_103 : decode cX6_init 103 = .ok (.newarray .int, 2) := by decide +kernel
theorem dX6_init_105 : decode cX6_init 105 = .ok (.putfield 45, 3) := by decide +kernel
theorem dX6_init_108 : decode cX6_init 108 = .ok (.aload_n 0, 1) := by decide +kernel
theorem dX6_init_109 : decode cX6_init 109 = .ok (.bipush 64, 2) := by decide +kernel
theorem dX6_init_111 : decode cX6_init 111 = .ok (.newarray .int, 2) := by decide +kernel
theorem dX6_init_113 : decode cX6_init 113 = .ok (.putfield 48, 3) := by decide +kernel
theorem dX6_init_116 : decode cX6_init 116 = .ok (.aload_n 0, 1) := by decide +kernel
theorem dX6_init_117 : decode cX6_init 117 = .ok (.bipush 64, 2) := by decide +kernel
theorem dX6_init_119 : decode cX6_init 119 = .ok (.newarray .int, 2) := by decide +kernel
theorem dX6_init_121 : decode cX6_init 121 = .ok (.putfield 51, 3) := by decide +kernel
theorem dX6_init_124 : decode cX6_init 124 = .ok (.aload_n 0, 1) := by decide +kernel
theorem dX6_init_125 : decode cX6_init 125 = .ok (.bipush 64, 2) := by decide +kernel
theorem dX6_init_127 : decode cX6_init 127 = .ok (.newarray .int, 2) := by decide +kernel
theorem dX6_init_129 : decode cX6_init 129 = .ok (.putfield 54, 3) := by decide +kernel
theorem dX6_init_132 : decode cX6_init 132 = .ok (.aload_n 0, 1) := by decide +kernel
theorem dX6_init_133 : decode cX6_init 133 = .ok (.bipush 64, 2) := by decide +kernel
theorem dX6_init_135 : decode cX6_init 135 = .ok (.newarray .boolean, 2) := by decide +kernel
theorem dX6_init_137 : decode cX6_init 137 = .ok (.putfield 57, 3) := by decide +kernel
theorem dX6_init_140 : decode cX6_init 140 = .ok (.aload_n 0, 1) := by decide +kernel
theorem dX6_init_141 : decode cX6_init 141 = .ok (.bipush 64, 2) := by decide +kernel
theorem dX6_init_143 : decode cX6_init 143 = .ok (.newarray .int, 2) := by decide +kernel
theorem dX6_init_145 : decode cX6_init 145 = .ok (.putfield 60, 3) := by decide +kernel
theorem dX6_init_148 : decode cX6_init 148 = .ok (.aload_n 0, 1) := by decide +kernel
theorem dX6_init_149 : decode cX6_init 149 = .ok (.bipush 64, 2) := by decide +kernel
theorem dX6_init_151 : decode cX6_init 151 = .ok (.newarray .int, 2) := by decide +kernel
theorem dX6_init_153 : decode cX6_init 153 = .ok (.putfield 63, 3) := by decide +kernel
theorem dX6_init_156 : decode cX6_init 156 = .ok (.aload_n 0, 1) := by decide +kernel
theorem dX6_init_157 : decode cX6_init 157 = .ok (.iconst 4, 1) := by decide +kernel
theorem dX6_init_158 : decode cX6_init 158 = .ok (.iconst 4, 1) := by decide +kernel
theorem dX6_init_159 : decode cX6_init 159 = .ok (.invokevirtual 66, 3) := by decide +kernel
theorem dX6_init_162 : decode cX6_init 162 = .ok (.return_, 1) := by decide +kernel
