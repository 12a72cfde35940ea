/-! the bytes of the law -/
theorem mo_l0 : tc_0_0.all (fun q => decide (decode code q.1 = .ok (q.2.1, q.2.2.1 - q.1))) = true := by decide +kernel
theorem mo_l1 : tc_0_1.all (fun q => decide (decode code q.1 = .ok (q.2.1, q.2.2.1 - q.1))) = true := by decide +kernel
theorem mo_l2 : tc_0_2.all (fun q => decide (decode code q.1 = .ok (q.2.1, q.2.2.1 - q.1))) = true := by decide +kernel
theorem mo_l3 : tc_0_3.all (fun q => decide (decode code q.1 = .ok (q.2.1, q.2.2.1 - q.1))) = true := by decide +kernel
theorem mo_l4 : tc_0_4.all (fun q => decide (decode code q.1 = .ok (q.2.1, q.2.2.1 - q.1))) = true := by decide +kernel
theorem mo_l5 : tc_0_5.all (fun q => decide (decode code q.1 = .ok (q.2.1, q.2.2.1 - q.1))) = true := by decide +kernel
theorem mo_l6 : tc_0_6.all (fun q => decide (decode code q.1 = .ok (q.2.1, q.2.2.1 - q.1))) = true := by decide +kernel
theorem mo_l7 : tc_0_7.all (fun q => decide (decode code q.1 = .ok (q.2.1, q.2.2.1 - q.1))) = true := by decide +kernel
theorem mo_l8 : tc_0_8.all (fun q => decide (decode code q.1 = .ok (q.2.1, q.2.2.1 - q.1))) = true := by decide +kernel
theorem mo_l9 : tc_0_9.all (fun q => decide (decode code q.1 = .ok (q.2.1, q.2.2.1 - q.1))) = true := by decide +kernel
theorem mo_l10 : tc_0_10.all (fun q => decide (decode code q.1 = .ok (q.2.1, q.2.2.1 - q.1))) = true := by decide +kernel
theorem mo_l11 : tc_0_11.all (fun q => decide (decode code q.1 = .ok (q.2.1, q.2.2.1 - q.1))) = true := by decide +kernel
theorem mo_l12 : tc_0_12.all (fun q => decide (decode code q.1 = .ok (q.2.1, q.2.2.1 - q.1))) = true := by decide +kernel
theorem mo_l13 : tc_0_13.all (fun q => decide (decode code q.1 = .ok (q.2.1, q.2.2.1 - q.1))) = true := by decide +kernel
theorem mo_l14 : tc_0_14.all (fun q => decide (decode code q.1 = .ok (q.2.1, q.2.2.1 - q.1))) = true := by decide +kernel
theorem mo_l15 : tc_0_15.all (fun q => decide (decode code q.1 = .ok (q.2.1, q.2.2.1 - q.1))) = true := by decide +kernel
theorem mo_l16 : tc_0_16.all (fun q => decide (decode code q.1 = .ok (q.2.1, q.2.2.1 - q.1))) = true := by decide +kernel
theorem mo_d0 : (List.range 1).all (fun k => mo_d (0 + k)) = true := by
  show (tc_0.all (fun q => decide (decode code q.1 = .ok (q.2.1, q.2.2.1 - q.1))) && true) = true
  unfold tc_0
  simp only [List.all_append, mo_l0, mo_l1, mo_l2, mo_l3, mo_l4, mo_l5, mo_l6, mo_l7, mo_l8, mo_l9, mo_l10, mo_l11, mo_l12, mo_l13, mo_l14, mo_l15, mo_l16, Bool.and_self]
