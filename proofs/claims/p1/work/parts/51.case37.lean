/-! case 37 of the law, in pieces -/
set_option maxRecDepth 100000 in
theorem tk_37_0 : ea_bx (fx_c 2272) [] [ea_any, ea_mk (-2147483648) (-1), ea_any, ea_any, ea_any, ea_any] = true := by decide +kernel
set_option maxRecDepth 100000 in
theorem tk_37_1 : ea_bx (fx_c 2272) [(1, 1), (1, 2), (1, 3), (1, 4), (1, 5), (1, 6), (1, 7), (1, 8), (1, 9), (1, 10)] [ea_any, ea_mk (0) (10), ea_any, ea_any, ea_any, ea_any] = true := by decide +kernel
set_option maxRecDepth 100000 in
theorem tk_37_2 : ea_bx (fx_c 2272) [(1, 12), (1, 13), (1, 14), (1, 15), (1, 16), (1, 17), (1, 18)] [ea_any, ea_mk (11) (18), ea_any, ea_any, ea_any, ea_any] = true := by decide +kernel
set_option maxRecDepth 100000 in
theorem tk_37_3 : ea_bx (fx_c 2272) [(1, 20), (1, 21), (1, 22), (1, 23), (1, 24), (1, 25)] [ea_any, ea_mk (19) (25), ea_any, ea_any, ea_any, ea_any] = true := by decide +kernel
set_option maxRecDepth 100000 in
theorem tk_37_4 : ea_bx (fx_c 2272) [(1, 27), (1, 28), (1, 29), (1, 30), (1, 31)] [ea_any, ea_mk (26) (31), ea_any, ea_any, ea_any, ea_any] = true := by decide +kernel
set_option maxRecDepth 100000 in
theorem tk_37_5 : ea_bx (fx_c 2272) [(1, 33), (1, 34), (1, 35), (1, 36)] [ea_any, ea_mk (32) (36), ea_any, ea_any, ea_any, ea_any] = true := by decide +kernel
set_option maxRecDepth 100000 in
theorem tk_37_6 : ea_bx (fx_c 2272) [(1, 38), (1, 39), (1, 40)] [ea_any, ea_mk (37) (40), ea_any, ea_any, ea_any, ea_any] = true := by decide +kernel
set_option maxRecDepth 100000 in
theorem tk_37_7 : ea_bx (fx_c 2272) [] [ea_any, ea_mk (41) (2147483647), ea_any, ea_any, ea_any, ea_any] = true := by decide +kernel
