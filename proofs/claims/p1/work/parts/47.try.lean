theorem q0 : fx_c 244 tb_any = true := by decide +kernel
