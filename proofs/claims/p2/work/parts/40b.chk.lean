/-! the contracts hold: checked by the kernel -/
set_option maxRecDepth 100000 in
theorem tv_60 : cn_ck (tb_P none) tb_G (tb_ct 60) th_60 tk_60 4000 = true := by decide +kernel
set_option maxRecDepth 100000 in
theorem tv_61 : cn_ck (tb_P none) tb_G (tb_ct 61) th_61 tk_61 4000 = true := by decide +kernel
set_option maxRecDepth 100000 in
theorem tv_62 : cn_ck (tb_P none) tb_G (tb_ct 62) th_62 tk_62 4000 = true := by decide +kernel
set_option maxRecDepth 100000 in
theorem tv_63 : cn_ck (tb_P none) tb_G (tb_ct 63) th_63 tk_63 4000 = true := by decide +kernel
set_option maxRecDepth 100000 in
theorem tv_64 : cn_ck (tb_P none) tb_G (tb_ct 64) th_64 tk_64 4000 = true := by decide +kernel
set_option maxRecDepth 100000 in
theorem tv_65 : cn_ck (tb_P none) tb_G (tb_ct 65) th_65 tk_65 4000 = true := by decide +kernel
set_option maxRecDepth 100000 in
theorem tv_66 : cn_ck (tb_P none) tb_G (tb_ct 66) th_66 tk_66 4000 = true := by decide +kernel
set_option maxRecDepth 100000 in
theorem tv_67 : cn_ck (tb_P none) tb_G (tb_ct 67) th_67 tk_67 4000 = true := by decide +kernel
set_option maxRecDepth 100000 in
theorem tv_68 : cn_ck (tb_P none) tb_G (tb_ct 68) th_68 tk_68 4000 = true := by decide +kernel
set_option maxRecDepth 100000 in
theorem tv_69 : cn_ck (tb_P none) tb_G (tb_ct 69) th_69 tk_69 4000 = true := by decide +kernel
set_option maxRecDepth 100000 in
theorem tv_70 : cn_ck (tb_P none) tb_G (tb_ct 70) th_70 tk_70 4000 = true := by decide +kernel
set_option maxRecDepth 100000 in
theorem tv_71 : cn_ck (tb_P none) tb_G (tb_ct 71) th_71 tk_71 4000 = true := by decide +kernel
set_option maxRecDepth 100000 in
theorem tv_72 : cn_ck (tb_P none) tb_G (tb_ct 72) th_72 tk_72 4000 = true := by decide +kernel
set_option maxRecDepth 100000 in
theorem tv_73 : cn_ck (tb_P none) tb_G (tb_ct 73) th_73 tk_73 4000 = true := by decide +kernel
set_option maxRecDepth 100000 in
theorem tv_74 : cn_ck (tb_P none) tb_G (tb_ct 74) th_74 tk_74 4000 = true := by decide +kernel
set_option maxRecDepth 100000 in
theorem tv_75 : cn_ck (tb_P none) tb_G (tb_ct 75) th_75 tk_75 4000 = true := by decide +kernel
set_option maxRecDepth 100000 in
theorem tv_76 : cn_ck (tb_P none) tb_G (tb_ct 76) th_76 tk_76 4000 = true := by decide +kernel
set_option maxRecDepth 100000 in
theorem tv_77 : cn_ck (tb_P none) tb_G (tb_ct 77) th_77 tk_77 4000 = true := by decide +kernel
set_option maxRecDepth 100000 in
theorem tv_78 : cn_ck (tb_P none) tb_G (tb_ct 78) th_78 tk_78 4000 = true := by decide +kernel
set_option maxRecDepth 100000 in
theorem tv_79 : cn_ck (tb_P none) tb_G (tb_ct 79) th_79 tk_79 4000 = true := by decide +kernel
set_option maxRecDepth 100000 in
theorem tv_80 : cn_ck (tb_P none) tb_G (tb_ct 80) th_80 tk_80 4000 = true := by decide +kernel
set_option maxRecDepth 100000 in
theorem tv_81 : cn_ck (tb_P none) tb_G (tb_ct 81) th_81 tk_81 4000 = true := by decide +kernel
set_option maxRecDepth 100000 in
theorem tv_82 : cn_ck (tb_P none) tb_G (tb_ct 82) th_82 tk_82 4000 = true := by decide +kernel
set_option maxRecDepth 100000 in
theorem tv_83 : cn_ck (tb_P none) tb_G (tb_ct 83) th_83 tk_83 4000 = true := by decide +kernel
set_option maxRecDepth 100000 in
theorem tv_84 : cn_ck (tb_P none) tb_G (tb_ct 84) th_84 tk_84 4000 = true := by decide +kernel
set_option maxRecDepth 100000 in
theorem tv_85 : cn_ck (tb_P none) tb_G (tb_ct 85) th_85 tk_85 4000 = true := by decide +kernel
set_option maxRecDepth 100000 in
theorem tv_86 : cn_ck (tb_P none) tb_G (tb_ct 86) th_86 tk_86 4000 = true := by decide +kernel
set_option maxRecDepth 100000 in
theorem tv_87 : cn_ck (tb_P none) tb_G (tb_ct 87) th_87 tk_87 4000 = true := by decide +kernel
set_option maxRecDepth 100000 in
theorem tv_88 : cn_ck (tb_P none) tb_G (tb_ct 88) th_88 tk_88 4000 = true := by decide +kernel
set_option maxRecDepth 100000 in
theorem tv_89 : cn_ck (tb_P none) tb_G (tb_ct 89) th_89 tk_89 4000 = true := by decide +kernel
set_option maxRecDepth 100000 in
theorem tv_90 : cn_ck (tb_P none) tb_G (tb_ct 90) th_90 tk_90 4000 = true := by decide +kernel
set_option maxRecDepth 100000 in
theorem tv_91 : cn_ck (tb_P none) tb_G (tb_ct 91) th_91 tk_91 4000 = true := by decide +kernel
set_option maxRecDepth 100000 in
theorem tv_92 : cn_ck (tb_P none) tb_G (tb_ct 92) th_92 tk_92 4000 = true := by decide +kernel
set_option maxRecDepth 100000 in
theorem tv_93 : cn_ck (tb_P none) tb_G (tb_ct 93) th_93 tk_93 4000 = true := by decide +kernel
set_option maxRecDepth 100000 in
theorem tv_94 : cn_ck (tb_P none) tb_G (tb_ct 94) th_94 tk_94 4000 = true := by decide +kernel
set_option maxRecDepth 100000 in
theorem tv_95 : cn_ck (tb_P none) tb_G (tb_ct 95) th_95 tk_95 4000 = true := by decide +kernel
set_option maxRecDepth 100000 in
theorem tv_96 : cn_ck (tb_P none) tb_G (tb_ct 96) th_96 tk_96 4000 = true := by decide +kernel
set_option maxRecDepth 100000 in
theorem tv_97 : cn_ck (tb_P none) tb_G (tb_ct 97) th_97 tk_97 4000 = true := by decide +kernel
set_option maxRecDepth 100000 in
theorem tv_98 : cn_ck (tb_P none) tb_G (tb_ct 98) th_98 tk_98 4000 = true := by decide +kernel
set_option maxRecDepth 100000 in
theorem tv_99 : cn_ck (tb_P none) tb_G (tb_ct 99) th_99 tk_99 4000 = true := by decide +kernel
set_option maxRecDepth 100000 in
theorem tv_100 : cn_ck (tb_P none) tb_G (tb_ct 100) th_100 tk_100 4000 = true := by decide +kernel
set_option maxRecDepth 100000 in
theorem tv_101 : cn_ck (tb_P none) tb_G (tb_ct 101) th_101 tk_101 4000 = true := by decide +kernel
set_option maxRecDepth 100000 in
theorem tv_102 : cn_ck (tb_P none) tb_G (tb_ct 102) th_102 tk_102 4000 = true := by decide +kernel
set_option maxRecDepth 100000 in
theorem tv_103 : cn_ck (tb_P none) tb_G (tb_ct 103) th_103 tk_103 4000 = true := by decide +kernel
set_option maxRecDepth 100000 in
theorem tv_104 : cn_ck (tb_P none) tb_G (tb_ct 104) th_104 tk_104 4000 = true := by decide +kernel
set_option maxRecDepth 100000 in
theorem tv_105 : cn_ck (tb_P none) tb_G (tb_ct 105) th_105 tk_105 4000 = true := by decide +kernel
set_option maxRecDepth 100000 in
theorem tv_106 : cn_ck (tb_P none) tb_G (tb_ct 106) th_106 tk_106 4000 = true := by decide +kernel
set_option maxRecDepth 100000 in
theorem tv_107 : cn_ck (tb_P none) tb_G (tb_ct 107) th_107 tk_107 4000 = true := by decide +kernel
set_option maxRecDepth 100000 in
theorem tv_108 : cn_ck (tb_P none) tb_G (tb_ct 108) th_108 tk_108 4000 = true := by decide +kernel
set_option maxRecDepth 100000 in
theorem tv_109 : cn_ck (tb_P none) tb_G (tb_ct 109) th_109 tk_109 4000 = true := by decide +kernel
set_option maxRecDepth 100000 in
theorem tv_110 : cn_ck (tb_P none) tb_G (tb_ct 110) th_110 tk_110 4000 = true := by decide +kernel
set_option maxRecDepth 100000 in
theorem tv_111 : cn_ck (tb_P none) tb_G (tb_ct 111) th_111 tk_111 4000 = true := by decide +kernel
set_option maxRecDepth 100000 in
theorem tv_112 : cn_ck (tb_P none) tb_G (tb_ct 112) th_112 tk_112 4000 = true := by decide +kernel
set_option maxRecDepth 100000 in
theorem tv_113 : cn_ck (tb_P none) tb_G (tb_ct 113) th_113 tk_113 4000 = true := by decide +kernel
set_option maxRecDepth 100000 in
theorem tv_114 : cn_ck (tb_P none) tb_G (tb_ct 114) th_114 tk_114 4000 = true := by decide +kernel
set_option maxRecDepth 100000 in
theorem tv_115 : cn_ck (tb_P none) tb_G (tb_ct 115) th_115 tk_115 4000 = true := by decide +kernel
set_option maxRecDepth 100000 in
theorem tv_116 : cn_ck (tb_P none) tb_G (tb_ct 116) th_116 tk_116 4000 = true := by decide +kernel
set_option maxRecDepth 100000 in
theorem tv_117 : cn_ck (tb_P none) tb_G (tb_ct 117) th_117 tk_117 4000 = true := by decide +kernel
set_option maxRecDepth 100000 in
theorem tv_118 : cn_ck (tb_P none) tb_G (tb_ct 118) th_118 tk_118 4000 = true := by decide +kernel
set_option maxRecDepth 100000 in
theorem tv_119 : cn_ck (tb_P none) tb_G (tb_ct 119) th_119 tk_119 4000 = true := by decide +kernel
