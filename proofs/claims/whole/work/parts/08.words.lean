/-! ===== printed: words of Math ===== -/
set_option maxRecDepth 100000 in
theorem ka_RX4_72 : KA RX4 72 := ⟨wT_of ⟨List.mem_of_getElem? (i := 555) (by decide +kernel), by decide +kernel⟩, wT_of ⟨List.mem_of_getElem? (i := 556) (by decide +kernel), by decide +kernel⟩, wT_of ⟨List.mem_of_getElem? (i := 49) (by decide +kernel), by decide +kernel⟩, wT_of ⟨List.mem_of_getElem? (i := 557) (by decide +kernel), by decide +kernel⟩⟩
set_option maxRecDepth 100000 in
theorem kx_RX3_88 : KX RX3 88 := ⟨wT_of ⟨List.mem_of_getElem? (i := 419) (by decide +kernel), by decide +kernel⟩, wT_of ⟨List.mem_of_getElem? (i := 420) (by decide +kernel), by decide +kernel⟩, wT_of ⟨List.mem_of_getElem? (i := 49) (by decide +kernel), by decide +kernel⟩, wT_of ⟨List.mem_of_getElem? (i := 421) (by decide +kernel), by decide +kernel⟩⟩
