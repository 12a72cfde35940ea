/-! the contracts of the reference hold: checked by the kernel -/
set_option maxRecDepth 100000 in
theorem trv_b : (List.range' 39 1).all tr_ck = true := by decide +kernel
