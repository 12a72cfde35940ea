theorem zz_1 : 1 = 1 := rfl
