theorem ph_bp_m10 : (Int8.ofInt (-10)).toInt32 = (-10) := by decide
theorem ph_bp_m4 : (Int8.ofInt (-4)).toInt32 = (-4) := by decide
theorem ph_bp_m3 : (Int8.ofInt (-3)).toInt32 = (-3) := by decide
theorem ph_bp_m2 : (Int8.ofInt (-2)).toInt32 = (-2) := by decide
theorem ph_bp_6 : (Int8.ofInt 6).toInt32 = (nI 6) := by decide
theorem ph_bp_7 : (Int8.ofInt 7).toInt32 = (nI 7) := by decide
theorem ph_bp_8 : (Int8.ofInt 8).toInt32 = (nI 8) := by decide
theorem ph_bp_9 : (Int8.ofInt 9).toInt32 = (nI 9) := by decide
theorem ph_bp_10 : (Int8.ofInt 10).toInt32 = (nI 10) := by decide
theorem ph_bp_12 : (Int8.ofInt 12).toInt32 = (nI 12) := by decide
theorem ph_bp_13 : (Int8.ofInt 13).toInt32 = (nI 13) := by decide
theorem ph_bp_16 : (Int8.ofInt 16).toInt32 = (nI 16) := by decide
theorem ph_bp_17 : (Int8.ofInt 17).toInt32 = (nI 17) := by decide
theorem ph_bp_24 : (Int8.ofInt 24).toInt32 = (nI 24) := by decide
theorem ph_bp_31 : (Int8.ofInt 31).toInt32 = (nI 31) := by decide
theorem ph_bp_39 : (Int8.ofInt 39).toInt32 = (nI 39) := by decide
theorem ph_bp_40 : (Int8.ofInt 40).toInt32 = (nI 40) := by decide
theorem ph_bp_44 : (Int8.ofInt 44).toInt32 = (nI 44) := by decide
theorem ph_bp_45 : (Int8.ofInt 45).toInt32 = (nI 45) := by decide
theorem ph_bp_48 : (Int8.ofInt 48).toInt32 = (nI 48) := by decide
theorem ph_bp_57 : (Int8.ofInt 57).toInt32 = (nI 57) := by decide
theorem ph_bp_59 : (Int8.ofInt 59).toInt32 = (nI 59) := by decide
theorem ph_bp_60 : (Int8.ofInt 60).toInt32 = (nI 60) := by decide
theorem ph_bp_63 : (Int8.ofInt 63).toInt32 = (nI 63) := by decide
theorem ph_bp_64 : (Int8.ofInt 64).toInt32 = (nI 64) := by decide
theorem ph_bp_97 : (Int8.ofInt 97).toInt32 = (nI 97) := by decide
theorem ph_bp_99 : (Int8.ofInt 99).toInt32 = (nI 99) := by decide
theorem ph_bp_104 : (Int8.ofInt 104).toInt32 = (nI 104) := by decide
theorem ph_bp_106 : (Int8.ofInt 106).toInt32 = (nI 106) := by decide
theorem ph_bp_108 : (Int8.ofInt 108).toInt32 = (nI 108) := by decide
theorem ph_bp_110 : (Int8.ofInt 110).toInt32 = (nI 110) := by decide
theorem ph_bp_114 : (Int8.ofInt 114).toInt32 = (nI 114) := by decide
theorem ph_bp_121 : (Int8.ofInt 121).toInt32 = (nI 121) := by decide
theorem ph_ic_m1 : Int32.ofInt (-1) = (-1) := by decide
theorem ph_ic_0 : Int32.ofInt 0 = (nI 0) := by decide
theorem ph_ic_1 : Int32.ofInt 1 = (nI 1) := by decide
theorem ph_ic_2 : Int32.ofInt 2 = (nI 2) := by decide
theorem ph_ic_3 : Int32.ofInt 3 = (nI 3) := by decide
theorem ph_ic_4 : Int32.ofInt 4 = (nI 4) := by decide
theorem ph_ic_5 : Int32.ofInt 5 = (nI 5) := by decide
theorem ph_ic_6 : Int32.ofInt 6 = (nI 6) := by decide
theorem ph_sp_256 : (Int16.ofInt 256).toInt32 = (nI 256) := by decide
theorem ph_sp_360 : (Int16.ofInt 360).toInt32 = (nI 360) := by decide
theorem ph_sp_511 : (Int16.ofInt 511).toInt32 = (nI 511) := by decide
theorem ph_sp_12345 : (Int16.ofInt 12345).toInt32 = (nI 12345) := by decide
