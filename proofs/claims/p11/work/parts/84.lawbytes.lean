/-! the bytes of the law -/
theorem mo_d0 : (List.range 1).all (fun k => mo_d (0 + k)) = true := by decide +kernel
