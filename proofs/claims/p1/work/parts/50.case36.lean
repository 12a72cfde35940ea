/-! case 36 of the law, in pieces -/
set_option maxRecDepth 100000 in
theorem tk_36_0 : ea_bx (fx_c 2204) [] [ea_any, ea_mk (-2147483648) (-1), ea_any, ea_any, ea_any, ea_any] = true := by decide +kernel
set_option maxRecDepth 100000 in
theorem tk_36_1 : ea_bx (fx_c 2204) [(2, 0), (2, 4), (2, 1), (2, 2), (2, 3), (1, 1), (1, 2), (1, 3), (1, 4), (1, 5), (1, 6), (1, 7)] [ea_any, ea_mk (0) (7), ea_any, ea_any, ea_any, ea_any] = true := by decide +kernel
set_option maxRecDepth 100000 in
theorem tk_36_2 : ea_bx (fx_c 2204) [(2, 0), (2, 4), (2, 1), (2, 2), (2, 3), (1, 9), (1, 10), (1, 11), (1, 12), (1, 13), (1, 14)] [ea_any, ea_mk (8) (14), ea_any, ea_any, ea_any, ea_any] = true := by decide +kernel
set_option maxRecDepth 100000 in
theorem tk_36_3 : ea_bx (fx_c 2204) [(2, 0), (2, 4), (2, 1), (2, 2), (2, 3), (1, 16), (1, 17), (1, 18), (1, 19), (1, 20)] [ea_any, ea_mk (15) (20), ea_any, ea_any, ea_any, ea_any] = true := by decide +kernel
set_option maxRecDepth 100000 in
theorem tk_36_4 : ea_bx (fx_c 2204) [(2, 0), (2, 4), (2, 1), (2, 2), (2, 3), (1, 22), (1, 23), (1, 24), (1, 25), (1, 26)] [ea_any, ea_mk (21) (26), ea_any, ea_any, ea_any, ea_any] = true := by decide +kernel
set_option maxRecDepth 100000 in
theorem tk_36_5 : ea_bx (fx_c 2204) [(2, 0), (2, 4), (2, 1), (2, 2), (2, 3), (1, 28), (1, 29), (1, 30), (1, 31)] [ea_any, ea_mk (27) (31), ea_any, ea_any, ea_any, ea_any] = true := by decide +kernel
set_option maxRecDepth 100000 in
theorem tk_36_6 : ea_bx (fx_c 2204) [(2, 0), (2, 4), (2, 1), (2, 2), (2, 3), (1, 33), (1, 34), (1, 35), (1, 36)] [ea_any, ea_mk (32) (36), ea_any, ea_any, ea_any, ea_any] = true := by decide +kernel
set_option maxRecDepth 100000 in
theorem tk_36_7 : ea_bx (fx_c 2204) [(2, 0), (2, 4), (2, 1), (2, 2), (2, 3), (1, 38), (1, 39), (1, 40)] [ea_any, ea_mk (37) (40), ea_any, ea_any, ea_any, ea_any] = true := by decide +kernel
set_option maxRecDepth 100000 in
theorem tk_36_8 : ea_bx (fx_c 2204) [] [ea_any, ea_mk (41) (2147483647), ea_any, ea_any, ea_any, ea_any] = true := by decide +kernel
