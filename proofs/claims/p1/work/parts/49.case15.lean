/-! case 15 of the law, in pieces -/
set_option maxRecDepth 100000 in
theorem tk_15_0 : ea_bx (fx_c 1086) [] [ea_any, ea_mk (-2147483648) (0), ea_any, ea_any, ea_any, ea_any] = true := by decide +kernel
set_option maxRecDepth 100000 in
theorem tk_15_1 : ea_bx (fx_c 1086) [(1, 2), (1, 3), (1, 4), (1, 5), (1, 6), (1, 7), (1, 8), (1, 9), (1, 10), (1, 11), (1, 12), (1, 13)] [ea_any, ea_mk (1) (13), ea_any, ea_any, ea_any, ea_any] = true := by decide +kernel
set_option maxRecDepth 100000 in
theorem tk_15_2 : ea_bx (fx_c 1086) [(1, 15), (1, 16), (1, 17), (1, 18), (1, 19), (1, 20), (1, 21), (1, 22), (1, 23), (1, 24), (1, 25), (1, 26)] [ea_any, ea_mk (14) (26), ea_any, ea_any, ea_any, ea_any] = true := by decide +kernel
set_option maxRecDepth 100000 in
theorem tk_15_3 : ea_bx (fx_c 1086) [(1, 28), (1, 29), (1, 30), (1, 31), (1, 32), (1, 33), (1, 34), (1, 35), (1, 36), (1, 37), (1, 38)] [ea_any, ea_mk (27) (38), ea_any, ea_any, ea_any, ea_any] = true := by decide +kernel
set_option maxRecDepth 100000 in
theorem tk_15_4 : ea_bx (fx_c 1086) [(1, 40), (1, 41), (1, 42), (1, 43), (1, 44), (1, 45), (1, 46), (1, 47), (1, 48), (1, 49), (1, 50)] [ea_any, ea_mk (39) (50), ea_any, ea_any, ea_any, ea_any] = true := by decide +kernel
set_option maxRecDepth 100000 in
theorem tk_15_5 : ea_bx (fx_c 1086) [] [ea_any, ea_mk (51) (2147483647), ea_any, ea_any, ea_any, ea_any] = true := by decide +kernel
