/-! the contracts hold: checked by the kernel -/
set_option maxRecDepth 100000 in
theorem tv_c : (List.range' 68 34).all tv_ck = true := by decide +kernel
