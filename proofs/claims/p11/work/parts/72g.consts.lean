/-! CONSTANTS (gw.py) -/
theorem ki_m8 : Int32.ofInt (Int.negSucc 7) = (-8) := by decide
theorem ki_m1 : Int32.ofInt (Int.negSucc 0) = (-1) := by decide
theorem ki_0 : Int32.ofInt (Int.ofNat 0) = 0 := by decide
theorem ki_1 : Int32.ofInt (Int.ofNat 1) = 1 := by decide
theorem ki_2 : Int32.ofInt (Int.ofNat 2) = 2 := by decide
theorem ki_3 : Int32.ofInt (Int.ofNat 3) = 3 := by decide
theorem ki_4 : Int32.ofInt (Int.ofNat 4) = 4 := by decide
theorem ki_5 : Int32.ofInt (Int.ofNat 5) = 5 := by decide
theorem ki_8 : Int32.ofInt (Int.ofNat 8) = 8 := by decide
theorem ki_16 : Int32.ofInt (Int.ofNat 16) = 16 := by decide
theorem kb_m4 : (Int8.ofInt (Int.negSucc 3)).toInt32 = (-4) := by decide
theorem kb_m3 : (Int8.ofInt (Int.negSucc 2)).toInt32 = (-3) := by decide
theorem kb_m2 : (Int8.ofInt (Int.negSucc 1)).toInt32 = (-2) := by decide
theorem kb_6 : (Int8.ofInt (Int.ofNat 6)).toInt32 = 6 := by decide
theorem kb_7 : (Int8.ofInt (Int.ofNat 7)).toInt32 = 7 := by decide
theorem kb_8 : (Int8.ofInt (Int.ofNat 8)).toInt32 = 8 := by decide
theorem kb_9 : (Int8.ofInt (Int.ofNat 9)).toInt32 = 9 := by decide
theorem kb_10 : (Int8.ofInt (Int.ofNat 10)).toInt32 = 10 := by decide
theorem kb_11 : (Int8.ofInt (Int.ofNat 11)).toInt32 = 11 := by decide
theorem kb_12 : (Int8.ofInt (Int.ofNat 12)).toInt32 = 12 := by decide
theorem kb_13 : (Int8.ofInt (Int.ofNat 13)).toInt32 = 13 := by decide
theorem kb_14 : (Int8.ofInt (Int.ofNat 14)).toInt32 = 14 := by decide
theorem kb_16 : (Int8.ofInt (Int.ofNat 16)).toInt32 = 16 := by decide
theorem kb_18 : (Int8.ofInt (Int.ofNat 18)).toInt32 = 18 := by decide
theorem kb_19 : (Int8.ofInt (Int.ofNat 19)).toInt32 = 19 := by decide
theorem kb_20 : (Int8.ofInt (Int.ofNat 20)).toInt32 = 20 := by decide
theorem kb_21 : (Int8.ofInt (Int.ofNat 21)).toInt32 = 21 := by decide
theorem kb_22 : (Int8.ofInt (Int.ofNat 22)).toInt32 = 22 := by decide
theorem kb_24 : (Int8.ofInt (Int.ofNat 24)).toInt32 = 24 := by decide
theorem kb_30 : (Int8.ofInt (Int.ofNat 30)).toInt32 = 30 := by decide
theorem kb_32 : (Int8.ofInt (Int.ofNat 32)).toInt32 = 32 := by decide
theorem kb_40 : (Int8.ofInt (Int.ofNat 40)).toInt32 = 40 := by decide
theorem kb_41 : (Int8.ofInt (Int.ofNat 41)).toInt32 = 41 := by decide
theorem kb_43 : (Int8.ofInt (Int.ofNat 43)).toInt32 = 43 := by decide
theorem kb_48 : (Int8.ofInt (Int.ofNat 48)).toInt32 = 48 := by decide
theorem kb_50 : (Int8.ofInt (Int.ofNat 50)).toInt32 = 50 := by decide
theorem kb_57 : (Int8.ofInt (Int.ofNat 57)).toInt32 = 57 := by decide
theorem kb_59 : (Int8.ofInt (Int.ofNat 59)).toInt32 = 59 := by decide
theorem kb_60 : (Int8.ofInt (Int.ofNat 60)).toInt32 = 60 := by decide
theorem kb_62 : (Int8.ofInt (Int.ofNat 62)).toInt32 = 62 := by decide
theorem kb_63 : (Int8.ofInt (Int.ofNat 63)).toInt32 = 63 := by decide
theorem kb_64 : (Int8.ofInt (Int.ofNat 64)).toInt32 = 64 := by decide
theorem kb_97 : (Int8.ofInt (Int.ofNat 97)).toInt32 = 97 := by decide
theorem kb_99 : (Int8.ofInt (Int.ofNat 99)).toInt32 = 99 := by decide
theorem kb_100 : (Int8.ofInt (Int.ofNat 100)).toInt32 = 100 := by decide
theorem kb_122 : (Int8.ofInt (Int.ofNat 122)).toInt32 = 122 := by decide
theorem kb_127 : (Int8.ofInt (Int.ofNat 127)).toInt32 = 127 := by decide
theorem ks_148 : (Int16.ofInt (Int.ofNat 148)).toInt32 = 148 := by decide
theorem ks_149 : (Int16.ofInt (Int.ofNat 149)).toInt32 = 149 := by decide
theorem ks_150 : (Int16.ofInt (Int.ofNat 150)).toInt32 = 150 := by decide
theorem ks_151 : (Int16.ofInt (Int.ofNat 151)).toInt32 = 151 := by decide
theorem ks_239 : (Int16.ofInt (Int.ofNat 239)).toInt32 = 239 := by decide
theorem ks_255 : (Int16.ofInt (Int.ofNat 255)).toInt32 = 255 := by decide
theorem ks_256 : (Int16.ofInt (Int.ofNat 256)).toInt32 = 256 := by decide
theorem ks_388 : (Int16.ofInt (Int.ofNat 388)).toInt32 = 388 := by decide
theorem ks_400 : (Int16.ofInt (Int.ofNat 400)).toInt32 = 400 := by decide
theorem ks_999 : (Int16.ofInt (Int.ofNat 999)).toInt32 = 999 := by decide
theorem ks_1000 : (Int16.ofInt (Int.ofNat 1000)).toInt32 = 1000 := by decide
theorem ks_12345 : (Int16.ofInt (Int.ofNat 12345)).toInt32 = 12345 := by decide
theorem ks_32767 : (Int16.ofInt (Int.ofNat 32767)).toInt32 = 32767 := by decide
theorem kn_8 : Int32.ofNat 8 = 8 := by decide
theorem kn_10 : Int32.ofNat 10 = 10 := by decide
theorem kn_12 : Int32.ofNat 12 = 12 := by decide
theorem kn_48 : Int32.ofNat 48 = 48 := by decide
theorem kn_60 : Int32.ofNat 60 = 60 := by decide
theorem kn_133 : Int32.ofNat 133 = 133 := by decide
theorem kn_200 : Int32.ofNat 200 = 200 := by decide
theorem kn_240 : Int32.ofNat 240 = 240 := by decide
theorem kn_400 : Int32.ofNat 400 = 400 := by decide
theorem kn_401 : Int32.ofNat 401 = 401 := by decide
theorem kn_665 : Int32.ofNat 665 = 665 := by decide
theorem kn_800 : Int32.ofNat 800 = 800 := by decide
theorem kn_65536 : Int32.ofNat 65536 = 65536 := by decide
theorem kn_252645135 : Int32.ofNat 252645135 = 252645135 := by decide
theorem kn_858993459 : Int32.ofNat 858993459 = 858993459 := by decide
theorem kn_1103515245 : Int32.ofNat 1103515245 = 1103515245 := by decide
theorem kn_1431655765 : Int32.ofNat 1431655765 = 1431655765 := by decide
