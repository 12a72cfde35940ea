/-! the contracts hold: checked by the kernel -/
set_option maxRecDepth 100000 in
theorem tv_d : (List.range' 102 21).all tv_ck = true := by decide +kernel
