/-! the bytes of the methods -/
theorem mo_d1 : (List.range 19).all (fun k => mo_d (1 + k)) = true := by decide +kernel
theorem mo_d20 : (List.range 20).all (fun k => mo_d (20 + k)) = true := by decide +kernel
theorem mo_d40 : (List.range 20).all (fun k => mo_d (40 + k)) = true := by decide +kernel
theorem mo_d60 : (List.range 20).all (fun k => mo_d (60 + k)) = true := by decide +kernel
theorem mo_d80 : (List.range 20).all (fun k => mo_d (80 + k)) = true := by decide +kernel
theorem mo_d100 : (List.range 20).all (fun k => mo_d (100 + k)) = true := by decide +kernel
theorem mo_d120 : (List.range 20).all (fun k => mo_d (120 + k)) = true := by decide +kernel
theorem mo_d140 : (List.range 20).all (fun k => mo_d (140 + k)) = true := by decide +kernel
theorem mo_d160 : (List.range 20).all (fun k => mo_d (160 + k)) = true := by decide +kernel
theorem mo_d180 : (List.range 20).all (fun k => mo_d (180 + k)) = true := by decide +kernel
theorem mo_d200 : (List.range 20).all (fun k => mo_d (200 + k)) = true := by decide +kernel
theorem mo_d220 : (List.range 20).all (fun k => mo_d (220 + k)) = true := by decide +kernel
theorem mo_d240 : (List.range 20).all (fun k => mo_d (240 + k)) = true := by decide +kernel
theorem mo_d260 : (List.range 20).all (fun k => mo_d (260 + k)) = true := by decide +kernel
theorem mo_d280 : (List.range 20).all (fun k => mo_d (280 + k)) = true := by decide +kernel
theorem mo_d300 : (List.range 20).all (fun k => mo_d (300 + k)) = true := by decide +kernel
theorem mo_d320 : (List.range 32).all (fun k => mo_d (320 + k)) = true := by decide +kernel
