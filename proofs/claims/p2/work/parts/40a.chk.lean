/-! the contracts hold: checked by the kernel -/
set_option maxRecDepth 100000 in
theorem tv_0 : cn_ck (tb_P none) tb_G (tb_ct 0) th_0 tk_0 4000 = true := by decide +kernel
set_option maxRecDepth 100000 in
theorem tv_1 : cn_ck (tb_P none) tb_G (tb_ct 1) th_1 tk_1 4000 = true := by decide +kernel
set_option maxRecDepth 100000 in
theorem tv_2 : cn_ck (tb_P none) tb_G (tb_ct 2) th_2 tk_2 4000 = true := by decide +kernel
set_option maxRecDepth 100000 in
theorem tv_3 : cn_ck (tb_P none) tb_G (tb_ct 3) th_3 tk_3 4000 = true := by decide +kernel
set_option maxRecDepth 100000 in
theorem tv_4 : cn_ck (tb_P none) tb_G (tb_ct 4) th_4 tk_4 4000 = true := by decide +kernel
set_option maxRecDepth 100000 in
theorem tv_5 : cn_ck (tb_P none) tb_G (tb_ct 5) th_5 tk_5 4000 = true := by decide +kernel
set_option maxRecDepth 100000 in
theorem tv_6 : cn_ck (tb_P none) tb_G (tb_ct 6) th_6 tk_6 4000 = true := by decide +kernel
set_option maxRecDepth 100000 in
theorem tv_7 : cn_ck (tb_P none) tb_G (tb_ct 7) th_7 tk_7 4000 = true := by decide +kernel
set_option maxRecDepth 100000 in
theorem tv_8 : cn_ck (tb_P none) tb_G (tb_ct 8) th_8 tk_8 4000 = true := by decide +kernel
set_option maxRecDepth 100000 in
theorem tv_9 : cn_ck (tb_P none) tb_G (tb_ct 9) th_9 tk_9 4000 = true := by decide +kernel
set_option maxRecDepth 100000 in
theorem tv_10 : cn_ck (tb_P none) tb_G (tb_ct 10) th_10 tk_10 4000 = true := by decide +kernel
set_option maxRecDepth 100000 in
theorem tv_11 : cn_ck (tb_P none) tb_G (tb_ct 11) th_11 tk_11 4000 = true := by decide +kernel
set_option maxRecDepth 100000 in
theorem tv_12 : cn_ck (tb_P none) tb_G (tb_ct 12) th_12 tk_12 4000 = true := by decide +kernel
set_option maxRecDepth 100000 in
theorem tv_13 : cn_ck (tb_P none) tb_G (tb_ct 13) th_13 tk_13 4000 = true := by decide +kernel
set_option maxRecDepth 100000 in
theorem tv_14 : cn_ck (tb_P none) tb_G (tb_ct 14) th_14 tk_14 4000 = true := by decide +kernel
set_option maxRecDepth 100000 in
theorem tv_15 : cn_ck (tb_P none) tb_G (tb_ct 15) th_15 tk_15 4000 = true := by decide +kernel
set_option maxRecDepth 100000 in
theorem tv_16 : cn_ck (tb_P none) tb_G (tb_ct 16) th_16 tk_16 4000 = true := by decide +kernel
set_option maxRecDepth 100000 in
theorem tv_17 : cn_ck (tb_P none) tb_G (tb_ct 17) th_17 tk_17 4000 = true := by decide +kernel
set_option maxRecDepth 100000 in
theorem tv_18 : cn_ck (tb_P none) tb_G (tb_ct 18) th_18 tk_18 4000 = true := by decide +kernel
set_option maxRecDepth 100000 in
theorem tv_19 : cn_ck (tb_P none) tb_G (tb_ct 19) th_19 tk_19 4000 = true := by decide +kernel
set_option maxRecDepth 100000 in
theorem tv_20 : cn_ck (tb_P none) tb_G (tb_ct 20) th_20 tk_20 4000 = true := by decide +kernel
set_option maxRecDepth 100000 in
theorem tv_21 : cn_ck (tb_P none) tb_G (tb_ct 21) th_21 tk_21 4000 = true := by decide +kernel
set_option maxRecDepth 100000 in
theorem tv_22 : cn_ck (tb_P none) tb_G (tb_ct 22) th_22 tk_22 4000 = true := by decide +kernel
set_option maxRecDepth 100000 in
theorem tv_23 : cn_ck (tb_P none) tb_G (tb_ct 23) th_23 tk_23 4000 = true := by decide +kernel
set_option maxRecDepth 100000 in
theorem tv_24 : cn_ck (tb_P none) tb_G (tb_ct 24) th_24 tk_24 4000 = true := by decide +kernel
set_option maxRecDepth 100000 in
theorem tv_25 : cn_ck (tb_P none) tb_G (tb_ct 25) th_25 tk_25 4000 = true := by decide +kernel
set_option maxRecDepth 100000 in
theorem tv_26 : cn_ck (tb_P none) tb_G (tb_ct 26) th_26 tk_26 4000 = true := by decide +kernel
set_option maxRecDepth 100000 in
theorem tv_27 : cn_ck (tb_P none) tb_G (tb_ct 27) th_27 tk_27 4000 = true := by decide +kernel
set_option maxRecDepth 100000 in
theorem tv_28 : cn_ck (tb_P none) tb_G (tb_ct 28) th_28 tk_28 4000 = true := by decide +kernel
set_option maxRecDepth 100000 in
theorem tv_29 : cn_ck (tb_P none) tb_G (tb_ct 29) th_29 tk_29 4000 = true := by decide +kernel
set_option maxRecDepth 100000 in
theorem tv_30 : cn_ck (tb_P none) tb_G (tb_ct 30) th_30 tk_30 4000 = true := by decide +kernel
set_option maxRecDepth 100000 in
theorem tv_31 : cn_ck (tb_P none) tb_G (tb_ct 31) th_31 tk_31 4000 = true := by decide +kernel
set_option maxRecDepth 100000 in
theorem tv_32 : cn_ck (tb_P none) tb_G (tb_ct 32) th_32 tk_32 4000 = true := by decide +kernel
set_option maxRecDepth 100000 in
theorem tv_33 : cn_ck (tb_P none) tb_G (tb_ct 33) th_33 tk_33 4000 = true := by decide +kernel
set_option maxRecDepth 100000 in
theorem tv_34 : cn_ck (tb_P none) tb_G (tb_ct 34) th_34 tk_34 4000 = true := by decide +kernel
set_option maxRecDepth 100000 in
theorem tv_35 : cn_ck (tb_P none) tb_G (tb_ct 35) th_35 tk_35 4000 = true := by decide +kernel
set_option maxRecDepth 100000 in
theorem tv_36 : cn_ck (tb_P none) tb_G (tb_ct 36) th_36 tk_36 4000 = true := by decide +kernel
set_option maxRecDepth 100000 in
theorem tv_37 : cn_ck (tb_P none) tb_G (tb_ct 37) th_37 tk_37 4000 = true := by decide +kernel
set_option maxRecDepth 100000 in
theorem tv_38 : cn_ck (tb_P none) tb_G (tb_ct 38) th_38 tk_38 4000 = true := by decide +kernel
set_option maxRecDepth 100000 in
theorem tv_39 : cn_ck (tb_P none) tb_G (tb_ct 39) th_39 tk_39 4000 = true := by decide +kernel
set_option maxRecDepth 100000 in
theorem tv_40 : cn_ck (tb_P none) tb_G (tb_ct 40) th_40 tk_40 4000 = true := by decide +kernel
set_option maxRecDepth 100000 in
theorem tv_41 : cn_ck (tb_P none) tb_G (tb_ct 41) th_41 tk_41 4000 = true := by decide +kernel
set_option maxRecDepth 100000 in
theorem tv_42 : cn_ck (tb_P none) tb_G (tb_ct 42) th_42 tk_42 4000 = true := by decide +kernel
set_option maxRecDepth 100000 in
theorem tv_43 : cn_ck (tb_P none) tb_G (tb_ct 43) th_43 tk_43 4000 = true := by decide +kernel
set_option maxRecDepth 100000 in
theorem tv_44 : cn_ck (tb_P none) tb_G (tb_ct 44) th_44 tk_44 4000 = true := by decide +kernel
set_option maxRecDepth 100000 in
theorem tv_45 : cn_ck (tb_P none) tb_G (tb_ct 45) th_45 tk_45 4000 = true := by decide +kernel
set_option maxRecDepth 100000 in
theorem tv_46 : cn_ck (tb_P none) tb_G (tb_ct 46) th_46 tk_46 4000 = true := by decide +kernel
set_option maxRecDepth 100000 in
theorem tv_47 : cn_ck (tb_P none) tb_G (tb_ct 47) th_47 tk_47 4000 = true := by decide +kernel
set_option maxRecDepth 100000 in
theorem tv_48 : cn_ck (tb_P none) tb_G (tb_ct 48) th_48 tk_48 4000 = true := by decide +kernel
set_option maxRecDepth 100000 in
theorem tv_49 : cn_ck (tb_P none) tb_G (tb_ct 49) th_49 tk_49 4000 = true := by decide +kernel
set_option maxRecDepth 100000 in
theorem tv_50 : cn_ck (tb_P none) tb_G (tb_ct 50) th_50 tk_50 4000 = true := by decide +kernel
set_option maxRecDepth 100000 in
theorem tv_51 : cn_ck (tb_P none) tb_G (tb_ct 51) th_51 tk_51 4000 = true := by decide +kernel
set_option maxRecDepth 100000 in
theorem tv_52 : cn_ck (tb_P none) tb_G (tb_ct 52) th_52 tk_52 4000 = true := by decide +kernel
set_option maxRecDepth 100000 in
theorem tv_53 : cn_ck (tb_P none) tb_G (tb_ct 53) th_53 tk_53 4000 = true := by decide +kernel
set_option maxRecDepth 100000 in
theorem tv_54 : cn_ck (tb_P none) tb_G (tb_ct 54) th_54 tk_54 4000 = true := by decide +kernel
set_option maxRecDepth 100000 in
theorem tv_55 : cn_ck (tb_P none) tb_G (tb_ct 55) th_55 tk_55 4000 = true := by decide +kernel
set_option maxRecDepth 100000 in
theorem tv_56 : cn_ck (tb_P none) tb_G (tb_ct 56) th_56 tk_56 4000 = true := by decide +kernel
set_option maxRecDepth 100000 in
theorem tv_57 : cn_ck (tb_P none) tb_G (tb_ct 57) th_57 tk_57 4000 = true := by decide +kernel
set_option maxRecDepth 100000 in
theorem tv_58 : cn_ck (tb_P none) tb_G (tb_ct 58) th_58 tk_58 4000 = true := by decide +kernel
set_option maxRecDepth 100000 in
theorem tv_59 : cn_ck (tb_P none) tb_G (tb_ct 59) th_59 tk_59 4000 = true := by decide +kernel
