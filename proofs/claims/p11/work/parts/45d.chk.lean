/-! the contracts of the reference hold: checked by the kernel -/
set_option maxRecDepth 100000 in
theorem trv_d : (List.range' 43 1).all tr_ck = true := by decide +kernel
