/-! each case of the law, on every script: one box of scripts, or cut at hints -/
set_option maxRecDepth 100000 in
theorem tk_0 : ea_bx (fx_c 244) [] tb_any = true := by decide +kernel
set_option maxRecDepth 100000 in
theorem tk_1 : ea_bx (fx_c 317) [(1, 0), (1, 1)] tb_any = true := by decide +kernel
set_option maxRecDepth 100000 in
theorem tk_2 : ea_bx (fx_c 342) [] tb_any = true := by decide +kernel
set_option maxRecDepth 100000 in
theorem tk_3 : ea_bx (fx_c 386) [] tb_any = true := by decide +kernel
set_option maxRecDepth 100000 in
theorem tk_4 : ea_bx (fx_c 430) [] tb_any = true := by decide +kernel
set_option maxRecDepth 100000 in
theorem tk_5 : ea_bx (fx_c 443) [(1, 0)] tb_any = true := by decide +kernel
set_option maxRecDepth 100000 in
theorem tk_6 : ea_bx (fx_c 511) [(1, 0)] tb_any = true := by decide +kernel
set_option maxRecDepth 100000 in
theorem tk_7 : ea_bx (fx_c 579) [(1, 0)] tb_any = true := by decide +kernel
set_option maxRecDepth 100000 in
theorem tk_8 : ea_bx (fx_c 634) [(1, 0)] tb_any = true := by decide +kernel
set_option maxRecDepth 100000 in
theorem tk_9 : ea_bx (fx_c 702) [(1, 0), (1, 64), (2, 0)] tb_any = true := by decide +kernel
set_option maxRecDepth 100000 in
theorem tk_10 : ea_bx (fx_c 782) [(1, 0)] tb_any = true := by decide +kernel
set_option maxRecDepth 100000 in
theorem tk_11 : ea_bx (fx_c 850) [(1, 0)] tb_any = true := by decide +kernel
set_option maxRecDepth 100000 in
theorem tk_12 : ea_bx (fx_c 906) [(1, 0)] tb_any = true := by decide +kernel
set_option maxRecDepth 100000 in
theorem tk_13 : ea_bx (fx_c 974) [(1, 0)] tb_any = true := by decide +kernel
set_option maxRecDepth 100000 in
theorem tk_14 : ea_bx (fx_c 1030) [(1, 0)] tb_any = true := by decide +kernel
set_option maxRecDepth 100000 in
theorem tk_16 : ea_bx (fx_c 1142) [] tb_any = true := by decide +kernel
set_option maxRecDepth 100000 in
theorem tk_17 : ea_bx (fx_c 1155) [] tb_any = true := by decide +kernel
set_option maxRecDepth 100000 in
theorem tk_18 : ea_bx (fx_c 1168) [(1, 0), (1, 3), (1, 1), (1, 2)] tb_any = true := by decide +kernel
set_option maxRecDepth 100000 in
theorem tk_19 : ea_bx (fx_c 1224) [(1, 0)] tb_any = true := by decide +kernel
set_option maxRecDepth 100000 in
theorem tk_20 : ea_bx (fx_c 1280) [] tb_any = true := by decide +kernel
set_option maxRecDepth 100000 in
theorem tk_21 : ea_bx (fx_c 1293) [(1, 0)] tb_any = true := by decide +kernel
set_option maxRecDepth 100000 in
theorem tk_22 : ea_bx (fx_c 1349) [(1, 1), (1, 11)] tb_any = true := by decide +kernel
