/-! each case of the law, on every script (the second half) -/
set_option maxRecDepth 100000 in
theorem tk_23 : ea_bx (fx_c 1405) [(1, 0)] tb_any = true := by decide +kernel
set_option maxRecDepth 100000 in
theorem tk_24 : ea_bx (fx_c 1473) [(1, 0)] tb_any = true := by decide +kernel
set_option maxRecDepth 100000 in
theorem tk_25 : ea_bx (fx_c 1541) [(1, 0)] tb_any = true := by decide +kernel
set_option maxRecDepth 100000 in
theorem tk_26 : ea_bx (fx_c 1609) [(1, 1), (1, 61), (2, 0), (2, 1)] tb_any = true := by decide +kernel
set_option maxRecDepth 100000 in
theorem tk_27 : ea_bx (fx_c 1693) [(1, 0)] tb_any = true := by decide +kernel
set_option maxRecDepth 100000 in
theorem tk_28 : ea_bx (fx_c 1749) [(1, 0), (1, 8)] tb_any = true := by decide +kernel
set_option maxRecDepth 100000 in
theorem tk_29 : ea_bx (fx_c 1805) [(1, 0), (1, 8)] tb_any = true := by decide +kernel
set_option maxRecDepth 100000 in
theorem tk_30 : ea_bx (fx_c 1861) [] tb_any = true := by decide +kernel
set_option maxRecDepth 100000 in
theorem tk_31 : ea_bx (fx_c 1903) [(1, 0), (1, 31), (1, 1), (1, 2), (1, 3), (1, 4), (1, 5), (1, 6), (1, 7), (1, 8), (1, 9), (1, 10), (1, 11), (1, 12), (1, 13), (1, 14), (1, 15), (1, 16), (1, 17), (1, 18), (1, 19), (1, 20), (1, 21), (1, 22), (1, 23), (1, 24), (1, 25), (1, 26), (1, 27), (1, 28), (1, 29), (1, 30)] tb_any = true := by decide +kernel
set_option maxRecDepth 100000 in
theorem tk_32 : ea_bx (fx_c 1959) [] tb_any = true := by decide +kernel
set_option maxRecDepth 100000 in
theorem tk_33 : ea_bx (fx_c 1972) [(1, 0)] tb_any = true := by decide +kernel
set_option maxRecDepth 100000 in
theorem tk_34 : ea_bx (fx_c 2056) [(1, 0), (1, 8), (2, 0), (2, 61)] tb_any = true := by decide +kernel
set_option maxRecDepth 100000 in
theorem tk_35 : ea_bx (fx_c 2124) [(1, 0)] tb_any = true := by decide +kernel
set_option maxRecDepth 100000 in
theorem tk_38 : ea_bx (fx_c 2356) [] tb_any = true := by decide +kernel
set_option maxRecDepth 100000 in
theorem tk_39 : ea_bx (fx_c 2369) [(1, -1), (1, 0)] tb_any = true := by decide +kernel
set_option maxRecDepth 100000 in
theorem tk_40 : ea_bx (fx_c 2425) [] tb_any = true := by decide +kernel
set_option maxRecDepth 100000 in
theorem tk_41 : ea_bx (fx_c 2438) [(1, 0), (2, 0), (2, 4), (1, 4)] tb_any = true := by decide +kernel
set_option maxRecDepth 100000 in
theorem tk_42 : ea_bx (fx_c 2506) [] tb_any = true := by decide +kernel
set_option maxRecDepth 100000 in
theorem tk_43 : ea_bx (fx_c 2531) [] tb_any = true := by decide +kernel
set_option maxRecDepth 100000 in
theorem tk_44 : ea_bx (fx_c 2544) [] tb_any = true := by decide +kernel
set_option maxRecDepth 100000 in
theorem tk_45 : ea_bx (fx_c 2555) [] tb_any = true := by decide +kernel
set_option maxRecDepth 100000 in
theorem tk_46 : ea_bx (fx_c 2568) [(1, 0), (1, 14), (1, 1), (1, 2), (1, 3), (1, 4), (1, 5), (1, 6), (1, 7), (1, 8), (1, 9), (1, 10), (1, 11), (1, 12), (1, 13)] tb_any = true := by decide +kernel
set_option maxRecDepth 100000 in
theorem tk_47 : ea_bx (fx_c 2593) [] tb_any = true := by decide +kernel
