/-! the contracts hold: checked by the kernel -/
set_option maxRecDepth 100000 in
theorem tv_180 : cn_ck (tb_P none) tb_G (tb_ct 180) th_180 tk_180 4000 = true := by decide +kernel
set_option maxRecDepth 100000 in
theorem tv_181 : cn_ck (tb_P none) tb_G (tb_ct 181) th_181 tk_181 4000 = true := by decide +kernel
set_option maxRecDepth 100000 in
theorem tv_182 : cn_ck (tb_P none) tb_G (tb_ct 182) th_182 tk_182 4000 = true := by decide +kernel
