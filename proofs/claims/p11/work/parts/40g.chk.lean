/-! the contracts hold: checked by the kernel -/
set_option maxRecDepth 100000 in
theorem tv_g : (List.range' 192 7).all tv_ck = true := by decide +kernel
