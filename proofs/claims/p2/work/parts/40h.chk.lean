/-! the contracts hold: checked by the kernel -/
set_option maxRecDepth 100000 in
theorem tv_h : (List.range' 195 7).all tv_ck = true := by decide +kernel
