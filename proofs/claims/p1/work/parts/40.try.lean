theorem zz_1 : (ea_x (tb_P none) 100 83 0 [(0, .inr (.inl (some 0)))] [] [.inr (8, ea_df (ep_fty (tb_P none)) 8 2)] 0 0).isSome = true := by decide +kernel
