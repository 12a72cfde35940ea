/-! the contracts of the reference hold: checked by the kernel -/
set_option maxRecDepth 100000 in
theorem trv_g : (List.range' 59 10).all tr_ck = true := by decide +kernel
