/-! the contracts of the reference hold: checked by the kernel -/
set_option maxRecDepth 100000 in
theorem trv_h : (List.range' 70 1).all tr_ck = true := by decide +kernel
