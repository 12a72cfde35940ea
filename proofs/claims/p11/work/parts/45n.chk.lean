/-! the contracts of the reference hold: checked by the kernel -/
set_option maxRecDepth 100000 in
theorem trv_n : (List.range' 136 25).all tr_ck = true := by decide +kernel
