theorem fl_RX10_9 : FLink RX10 9 10 0 := ⟨by decide, (RX10, TX10, 20), rfl, tb2 (List.mem_of_getElem? (i := 93) (by decide +kernel))⟩
theorem fl_RX10_13 : FLink RX10 13 10 1 := ⟨by decide, (RX10, TX10, 20), rfl, tb2 (List.mem_of_getElem? (i := 94) (by decide +kernel))⟩
theorem fl_RX10_17 : FLink RX10 17 10 2 := ⟨by decide, (RX10, TX10, 20), rfl, tb2 (List.mem_of_getElem? (i := 95) (by decide +kernel))⟩
theorem fl_RX10_20 : FLink RX10 20 10 3 := ⟨by decide, (RX10, TX10, 20), rfl, tb2 (List.mem_of_getElem? (i := 96) (by decide +kernel))⟩
theorem fl_RX10_26 : FLink RX10 26 10 4 := ⟨by decide, (RX10, TX10, 20), rfl, tb2 (List.mem_of_getElem? (i := 97) (by decide +kernel))⟩
theorem fl_RX10_30 : FLink RX10 30 10 5 := ⟨by decide, (RX10, TX10, 20), rfl, tb2 (List.mem_of_getElem? (i := 98) (by decide +kernel))⟩
theorem fl_RX10_38 : FLink RX10 38 10 6 := ⟨by decide, (RX10, TX10, 20), rfl, tb2 (List.mem_of_getElem? (i := 99) (by decide +kernel))⟩
theorem fl_RX10_45 : FLink RX10 45 10 7 := ⟨by decide, (RX10, TX10, 20), rfl, tb2 (List.mem_of_getElem? (i := 100) (by decide +kernel))⟩
theorem fl_RX10_52 : FLink RX10 52 10 8 := ⟨by decide, (RX10, TX10, 20), rfl, tb2 (List.mem_of_getElem? (i := 101) (by decide +kernel))⟩
theorem fl_RX10_59 : FLink RX10 59 10 9 := ⟨by decide, (RX10, TX10, 20), rfl, tb2 (List.mem_of_getElem? (i := 102) (by decide +kernel))⟩
theorem fl_RX10_63 : FLink RX10 63 10 10 := ⟨by decide, (RX10, TX10, 20), rfl, tb2 (List.mem_of_getElem? (i := 103) (by decide +kernel))⟩
theorem fl_RX10_67 : FLink RX10 67 10 11 := ⟨by decide, (RX10, TX10, 20), rfl, tb2 (List.mem_of_getElem? (i := 104) (by decide +kernel))⟩
theorem fl_RX10_70 : FLink RX10 70 10 12 := ⟨by decide, (RX10, TX10, 20), rfl, tb2 (List.mem_of_getElem? (i := 105) (by decide +kernel))⟩
theorem fl_RX10_73 : FLink RX10 73 10 13 := ⟨by decide, (RX10, TX10, 20), rfl, tb2 (List.mem_of_getElem? (i := 106) (by decide +kernel))⟩
theorem fl_RX10_79 : FLink RX10 79 10 14 := ⟨by decide, (RX10, TX10, 20), rfl, tb2 (List.mem_of_getElem? (i := 107) (by decide +kernel))⟩
theorem fl_RX10_86 : FLink RX10 86 10 15 := ⟨by decide, (RX10, TX10, 20), rfl, tb2 (List.mem_of_getElem? (i := 108) (by decide +kernel))⟩
theorem fl_RX10_93 : FLink RX10 93 10 16 := ⟨by decide, (RX10, TX10, 20), rfl, tb2 (List.mem_of_getElem? (i := 109) (by decide +kernel))⟩
theorem fl_RX10_100 : FLink RX10 100 10 17 := ⟨by decide, (RX10, TX10, 20), rfl, tb2 (List.mem_of_getElem? (i := 110) (by decide +kernel))⟩
theorem fl_RX10_104 : FLink RX10 104 10 18 := ⟨by decide, (RX10, TX10, 20), rfl, tb2 (List.mem_of_getElem? (i := 111) (by decide +kernel))⟩
theorem fl_RX10_110 : FLink RX10 110 10 19 := ⟨by decide, (RX10, TX10, 20), rfl, tb2 (List.mem_of_getElem? (i := 112) (by decide +kernel))⟩
theorem fl_RX10_128 : FLink RX10 128 6 1 := ⟨by decide, (RX6, TX6, 11), rfl, tb1 (List.mem_of_getElem? (i := 162) (by decide +kernel))⟩
theorem fl_RX10_129 : FLink RX10 129 1 7 := ⟨by decide, (RX1, TX1, 8), rfl, tb1 (List.mem_of_getElem? (i := 134) (by decide +kernel))⟩
theorem fl_RX10_144 : FLink RX10 144 1 0 := ⟨by decide, (RX1, TX1, 8), rfl, tb1 (List.mem_of_getElem? (i := 111) (by decide +kernel))⟩
theorem fl_RX10_147 : FLink RX10 147 1 1 := ⟨by decide, (RX1, TX1, 8), rfl, tb1 (List.mem_of_getElem? (i := 115) (by decide +kernel))⟩
theorem fl_RX10_150 : FLink RX10 150 9 0 := ⟨by decide, (RX9, TX9, 7), rfl, tb1 (List.mem_of_getElem? (i := 70) (by decide +kernel))⟩
theorem fl_RX10_161 : FLink RX10 161 9 2 := ⟨by decide, (RX9, TX9, 7), rfl, tb1 (List.mem_of_getElem? (i := 76) (by decide +kernel))⟩
theorem fl_RX10_181 : FLink RX10 181 0 0 := ⟨by decide, (RX0, TX0, 3), rfl, tb1 (List.mem_of_getElem? (i := 208) (by decide +kernel))⟩
theorem fl_RX10_184 : FLink RX10 184 8 0 := ⟨by decide, (RX8, TX8, 4), rfl, tb1 (List.mem_of_getElem? (i := 225) (by decide +kernel))⟩
theorem fl_RX10_188 : FLink RX10 188 1 3 := ⟨by decide, (RX1, TX1, 8), rfl, tb1 (List.mem_of_getElem? (i := 121) (by decide +kernel))⟩
theorem fl_RX10_191 : FLink RX10 191 9 1 := ⟨by decide, (RX9, TX9, 7), rfl, tb1 (List.mem_of_getElem? (i := 73) (by decide +kernel))⟩
theorem fl_RX10_205 : FLink RX10 205 9 3 := ⟨by decide, (RX9, TX9, 7), rfl, tb1 (List.mem_of_getElem? (i := 80) (by decide +kernel))⟩
theorem fl_RX10_208 : FLink RX10 208 9 4 := ⟨by decide, (RX9, TX9, 7), rfl, tb1 (List.mem_of_getElem? (i := 85) (by decide +kernel))⟩
theorem fl_RX10_217 : FLink RX10 217 1 4 := ⟨by decide, (RX1, TX1, 8), rfl, tb1 (List.mem_of_getElem? (i := 125) (by decide +kernel))⟩
theorem fl_RX10_220 : FLink RX10 220 9 5 := ⟨by decide, (RX9, TX9, 7), rfl, tb1 (List.mem_of_getElem? (i := 90) (by decide +kernel))⟩
theorem fl_RX10_223 : FLink RX10 223 9 6 := ⟨by decide, (RX9, TX9, 7), rfl, tb1 (List.mem_of_getElem? (i := 94) (by decide +kernel))⟩
theorem fl_RX10_242 : FLink RX10 242 2 0 := ⟨by decide, (RX2, TX2, 8), rfl, tb2 (List.mem_of_getElem? (i := 32) (by decide +kernel))⟩
theorem fl_RX10_272 : FLink RX10 272 2 4 := ⟨by decide, (RX2, TX2, 8), rfl, tb2 (List.mem_of_getElem? (i := 39) (by decide +kernel))⟩
theorem fl_RX10_281 : FLink RX10 281 2 5 := ⟨by decide, (RX2, TX2, 8), rfl, tb2 (List.mem_of_getElem? (i := 41) (by decide +kernel))⟩
theorem fl_RX10_287 : FLink RX10 287 2 3 := ⟨by decide, (RX2, TX2, 8), rfl, tb2 (List.mem_of_getElem? (i := 37) (by decide +kernel))⟩
theorem fl_RX10_299 : FLink RX10 299 5 1 := ⟨by decide, (RX5, TX5, 5), rfl, tb2 (List.mem_of_getElem? (i := 14) (by decide +kernel))⟩
theorem fl_RX10_307 : FLink RX10 307 5 3 := ⟨by decide, (RX5, TX5, 5), rfl, tb2 (List.mem_of_getElem? (i := 17) (by decide +kernel))⟩
theorem fl_RX10_351 : FLink RX10 351 2 2 := ⟨by decide, (RX2, TX2, 8), rfl, tb2 (List.mem_of_getElem? (i := 35) (by decide +kernel))⟩
theorem fl_RX10_380 : FLink RX10 380 3 0 := ⟨by decide, (RX3, TX3, 1), rfl, tb2 (List.mem_of_getElem? (i := 88) (by decide +kernel))⟩
theorem fl_RX10_414 : FLink RX10 414 1 2 := ⟨by decide, (RX1, TX1, 8), rfl, tb1 (List.mem_of_getElem? (i := 119) (by decide +kernel))⟩
theorem fl_RX0_9 : FLink RX0 9 0 0 := ⟨by decide, (RX0, TX0, 3), rfl, tb1 (List.mem_of_getElem? (i := 207) (by decide +kernel))⟩
theorem fl_RX0_15 : FLink RX0 15 0 1 := ⟨by decide, (RX0, TX0, 3), rfl, tb1 (List.mem_of_getElem? (i := 209) (by decide +kernel))⟩
theorem fl_RX0_20 : FLink RX0 20 0 2 := ⟨by decide, (RX0, TX0, 3), rfl, tb1 (List.mem_of_getElem? (i := 210) (by decide +kernel))⟩
theorem fl_RX1_9 : FLink RX1 9 1 0 := ⟨by decide, (RX1, TX1, 8), rfl, tb1 (List.mem_of_getElem? (i := 110) (by decide +kernel))⟩
theorem fl_RX1_15 : FLink RX1 15 1 1 := ⟨by decide, (RX1, TX1, 8), rfl, tb1 (List.mem_of_getElem? (i := 113) (by decide +kernel))⟩
theorem fl_RX1_18 : FLink RX1 18 1 2 := ⟨by decide, (RX1, TX1, 8), rfl, tb1 (List.mem_of_getElem? (i := 117) (by decide +kernel))⟩
theorem fl_RX1_22 : FLink RX1 22 1 3 := ⟨by decide, (RX1, TX1, 8), rfl, tb1 (List.mem_of_getElem? (i := 120) (by decide +kernel))⟩
theorem fl_RX1_26 : FLink RX1 26 1 4 := ⟨by decide, (RX1, TX1, 8), rfl, tb1 (List.mem_of_getElem? (i := 123) (by decide +kernel))⟩
theorem fl_RX1_32 : FLink RX1 32 1 5 := ⟨by decide, (RX1, TX1, 8), rfl, tb1 (List.mem_of_getElem? (i := 127) (by decide +kernel))⟩
theorem fl_RX1_36 : FLink RX1 36 1 6 := ⟨by decide, (RX1, TX1, 8), rfl, tb1 (List.mem_of_getElem? (i := 130) (by decide +kernel))⟩
theorem fl_RX1_42 : FLink RX1 42 1 7 := ⟨by decide, (RX1, TX1, 8), rfl, tb1 (List.mem_of_getElem? (i := 133) (by decide +kernel))⟩
theorem fl_RX1_46 : FLink RX1 46 7 1 := ⟨by decide, (RX7, TX7, 3), rfl, tb1 (List.mem_of_getElem? (i := 48) (by decide +kernel))⟩
theorem fl_RX2_12 : FLink RX2 12 2 0 := ⟨by decide, (RX2, TX2, 8), rfl, tb2 (List.mem_of_getElem? (i := 31) (by decide +kernel))⟩
theorem fl_RX2_21 : FLink RX2 21 2 1 := ⟨by decide, (RX2, TX2, 8), rfl, tb2 (List.mem_of_getElem? (i := 33) (by decide +kernel))⟩
theorem fl_RX2_25 : FLink RX2 25 2 2 := ⟨by decide, (RX2, TX2, 8), rfl, tb2 (List.mem_of_getElem? (i := 34) (by decide +kernel))⟩
theorem fl_RX2_29 : FLink RX2 29 2 3 := ⟨by decide, (RX2, TX2, 8), rfl, tb2 (List.mem_of_getElem? (i := 36) (by decide +kernel))⟩
theorem fl_RX2_32 : FLink RX2 32 2 4 := ⟨by decide, (RX2, TX2, 8), rfl, tb2 (List.mem_of_getElem? (i := 38) (by decide +kernel))⟩
theorem fl_RX2_35 : FLink RX2 35 2 5 := ⟨by decide, (RX2, TX2, 8), rfl, tb2 (List.mem_of_getElem? (i := 40) (by decide +kernel))⟩
theorem fl_RX2_39 : FLink RX2 39 2 6 := ⟨by decide, (RX2, TX2, 8), rfl, tb2 (List.mem_of_getElem? (i := 42) (by decide +kernel))⟩
theorem fl_RX2_42 : FLink RX2 42 2 7 := ⟨by decide, (RX2, TX2, 8), rfl, tb2 (List.mem_of_getElem? (i := 43) (by decide +kernel))⟩
theorem fl_RX2_50 : FLink RX2 50 1 4 := ⟨by decide, (RX1, TX1, 8), rfl, tb1 (List.mem_of_getElem? (i := 124) (by decide +kernel))⟩
theorem fl_RX2_57 : FLink RX2 57 1 1 := ⟨by decide, (RX1, TX1, 8), rfl, tb1 (List.mem_of_getElem? (i := 114) (by decide +kernel))⟩
theorem fl_RX2_60 : FLink RX2 60 9 5 := ⟨by decide, (RX9, TX9, 7), rfl, tb1 (List.mem_of_getElem? (i := 89) (by decide +kernel))⟩
theorem fl_RX2_67 : FLink RX2 67 9 4 := ⟨by decide, (RX9, TX9, 7), rfl, tb1 (List.mem_of_getElem? (i := 83) (by decide +kernel))⟩
theorem fl_RX2_76 : FLink RX2 76 9 0 := ⟨by decide, (RX9, TX9, 7), rfl, tb1 (List.mem_of_getElem? (i := 69) (by decide +kernel))⟩
theorem fl_RX2_90 : FLink RX2 90 1 5 := ⟨by decide, (RX1, TX1, 8), rfl, tb1 (List.mem_of_getElem? (i := 129) (by decide +kernel))⟩
theorem fl_RX2_104 : FLink RX2 104 9 6 := ⟨by decide, (RX9, TX9, 7), rfl, tb1 (List.mem_of_getElem? (i := 93) (by decide +kernel))⟩
theorem fl_RX2_116 : FLink RX2 116 9 3 := ⟨by decide, (RX9, TX9, 7), rfl, tb1 (List.mem_of_getElem? (i := 79) (by decide +kernel))⟩
theorem fl_RX2_129 : FLink RX2 129 1 6 := ⟨by decide, (RX1, TX1, 8), rfl, tb1 (List.mem_of_getElem? (i := 131) (by decide +kernel))⟩
theorem fl_RX3_7 : FLink RX3 7 3 0 := ⟨by decide, (RX3, TX3, 1), rfl, tb2 (List.mem_of_getElem? (i := 87) (by decide +kernel))⟩
theorem fl_RX4_9 : FLink RX4 9 4 0 := ⟨by decide, (RX4, TX4, 3), rfl, tb2 (List.mem_of_getElem? (i := 71) (by decide +kernel))⟩
theorem fl_RX4_17 : FLink RX4 17 4 1 := ⟨by decide, (RX4, TX4, 3), rfl, tb2 (List.mem_of_getElem? (i := 72) (by decide +kernel))⟩
theorem fl_RX4_20 : FLink RX4 20 4 2 := ⟨by decide, (RX4, TX4, 3), rfl, tb2 (List.mem_of_getElem? (i := 73) (by decide +kernel))⟩
theorem fl_RX4_29 : FLink RX4 29 9 5 := ⟨by decide, (RX9, TX9, 7), rfl, tb1 (List.mem_of_getElem? (i := 88) (by decide +kernel))⟩
theorem fl_RX4_35 : FLink RX4 35 9 4 := ⟨by decide, (RX9, TX9, 7), rfl, tb1 (List.mem_of_getElem? (i := 82) (by decide +kernel))⟩
theorem fl_RX5_9 : FLink RX5 9 5 0 := ⟨by decide, (RX5, TX5, 5), rfl, tb2 (List.mem_of_getElem? (i := 12) (by decide +kernel))⟩
theorem fl_RX5_15 : FLink RX5 15 5 1 := ⟨by decide, (RX5, TX5, 5), rfl, tb2 (List.mem_of_getElem? (i := 13) (by decide +kernel))⟩
theorem fl_RX5_18 : FLink RX5 18 5 2 := ⟨by decide, (RX5, TX5, 5), rfl, tb2 (List.mem_of_getElem? (i := 15) (by decide +kernel))⟩
theorem fl_RX5_21 : FLink RX5 21 5 3 := ⟨by decide, (RX5, TX5, 5), rfl, tb2 (List.mem_of_getElem? (i := 16) (by decide +kernel))⟩
theorem fl_RX5_25 : FLink RX5 25 5 4 := ⟨by decide, (RX5, TX5, 5), rfl, tb2 (List.mem_of_getElem? (i := 18) (by decide +kernel))⟩
theorem fl_RX5_29 : FLink RX5 29 1 2 := ⟨by decide, (RX1, TX1, 8), rfl, tb1 (List.mem_of_getElem? (i := 118) (by decide +kernel))⟩
theorem fl_RX5_32 : FLink RX5 32 9 1 := ⟨by decide, (RX9, TX9, 7), rfl, tb1 (List.mem_of_getElem? (i := 72) (by decide +kernel))⟩
theorem fl_RX5_35 : FLink RX5 35 9 2 := ⟨by decide, (RX9, TX9, 7), rfl, tb1 (List.mem_of_getElem? (i := 75) (by decide +kernel))⟩
theorem fl_RX6_9 : FLink RX6 9 6 0 := ⟨by decide, (RX6, TX6, 11), rfl, tb1 (List.mem_of_getElem? (i := 160) (by decide +kernel))⟩
theorem fl_RX6_15 : FLink RX6 15 6 1 := ⟨by decide, (RX6, TX6, 11), rfl, tb1 (List.mem_of_getElem? (i := 161) (by decide +kernel))⟩
theorem fl_RX6_18 : FLink RX6 18 6 2 := ⟨by decide, (RX6, TX6, 11), rfl, tb1 (List.mem_of_getElem? (i := 163) (by decide +kernel))⟩
theorem fl_RX6_22 : FLink RX6 22 6 3 := ⟨by decide, (RX6, TX6, 11), rfl, tb1 (List.mem_of_getElem? (i := 164) (by decide +kernel))⟩
theorem fl_RX6_25 : FLink RX6 25 6 4 := ⟨by decide, (RX6, TX6, 11), rfl, tb1 (List.mem_of_getElem? (i := 165) (by decide +kernel))⟩
theorem fl_RX6_28 : FLink RX6 28 6 5 := ⟨by decide, (RX6, TX6, 11), rfl, tb1 (List.mem_of_getElem? (i := 166) (by decide +kernel))⟩
theorem fl_RX6_31 : FLink RX6 31 6 6 := ⟨by decide, (RX6, TX6, 11), rfl, tb1 (List.mem_of_getElem? (i := 167) (by decide +kernel))⟩
theorem fl_RX6_34 : FLink RX6 34 6 7 := ⟨by decide, (RX6, TX6, 11), rfl, tb1 (List.mem_of_getElem? (i := 168) (by decide +kernel))⟩
theorem fl_RX6_39 : FLink RX6 39 6 10 := ⟨by decide, (RX6, TX6, 11), rfl, tb1 (List.mem_of_getElem? (i := 171) (by decide +kernel))⟩
theorem fl_RX6_43 : FLink RX6 43 6 8 := ⟨by decide, (RX6, TX6, 11), rfl, tb1 (List.mem_of_getElem? (i := 169) (by decide +kernel))⟩
theorem fl_RX6_47 : FLink RX6 47 1 5 := ⟨by decide, (RX1, TX1, 8), rfl, tb1 (List.mem_of_getElem? (i := 128) (by decide +kernel))⟩
theorem fl_RX6_53 : FLink RX6 53 6 9 := ⟨by decide, (RX6, TX6, 11), rfl, tb1 (List.mem_of_getElem? (i := 170) (by decide +kernel))⟩
theorem fl_RX6_132 : FLink RX6 132 1 6 := ⟨by decide, (RX1, TX1, 8), rfl, tb1 (List.mem_of_getElem? (i := 132) (by decide +kernel))⟩
theorem fl_RX6_140 : FLink RX6 140 1 0 := ⟨by decide, (RX1, TX1, 8), rfl, tb1 (List.mem_of_getElem? (i := 112) (by decide +kernel))⟩
theorem fl_RX6_150 : FLink RX6 150 1 3 := ⟨by decide, (RX1, TX1, 8), rfl, tb1 (List.mem_of_getElem? (i := 122) (by decide +kernel))⟩
theorem fl_RX6_157 : FLink RX6 157 1 7 := ⟨by decide, (RX1, TX1, 8), rfl, tb1 (List.mem_of_getElem? (i := 135) (by decide +kernel))⟩
theorem fl_RX6_161 : FLink RX6 161 9 2 := ⟨by decide, (RX9, TX9, 7), rfl, tb1 (List.mem_of_getElem? (i := 77) (by decide +kernel))⟩
theorem fl_RX6_167 : FLink RX6 167 1 1 := ⟨by decide, (RX1, TX1, 8), rfl, tb1 (List.mem_of_getElem? (i := 116) (by decide +kernel))⟩
theorem fl_RX6_170 : FLink RX6 170 9 4 := ⟨by decide, (RX9, TX9, 7), rfl, tb1 (List.mem_of_getElem? (i := 86) (by decide +kernel))⟩
theorem fl_RX6_176 : FLink RX6 176 1 4 := ⟨by decide, (RX1, TX1, 8), rfl, tb1 (List.mem_of_getElem? (i := 126) (by decide +kernel))⟩
theorem fl_RX6_185 : FLink RX6 185 9 5 := ⟨by decide, (RX9, TX9, 7), rfl, tb1 (List.mem_of_getElem? (i := 91) (by decide +kernel))⟩
theorem fl_RX7_9 : FLink RX7 9 7 0 := ⟨by decide, (RX7, TX7, 3), rfl, tb1 (List.mem_of_getElem? (i := 46) (by decide +kernel))⟩
theorem fl_RX7_15 : FLink RX7 15 7 1 := ⟨by decide, (RX7, TX7, 3), rfl, tb1 (List.mem_of_getElem? (i := 47) (by decide +kernel))⟩
theorem fl_RX7_19 : FLink RX7 19 7 2 := ⟨by decide, (RX7, TX7, 3), rfl, tb1 (List.mem_of_getElem? (i := 49) (by decide +kernel))⟩
theorem fl_RX8_9 : FLink RX8 9 8 0 := ⟨by decide, (RX8, TX8, 4), rfl, tb1 (List.mem_of_getElem? (i := 224) (by decide +kernel))⟩
theorem fl_RX8_15 : FLink RX8 15 8 1 := ⟨by decide, (RX8, TX8, 4), rfl, tb1 (List.mem_of_getElem? (i := 226) (by decide +kernel))⟩
theorem fl_RX8_19 : FLink RX8 19 8 2 := ⟨by decide, (RX8, TX8, 4), rfl, tb1 (List.mem_of_getElem? (i := 227) (by decide +kernel))⟩
theorem fl_RX8_22 : FLink RX8 22 8 3 := ⟨by decide, (RX8, TX8, 4), rfl, tb1 (List.mem_of_getElem? (i := 228) (by decide +kernel))⟩
theorem fl_RX8_37 : FLink RX8 37 9 4 := ⟨by decide, (RX9, TX9, 7), rfl, tb1 (List.mem_of_getElem? (i := 84) (by decide +kernel))⟩
theorem fl_RX9_9 : FLink RX9 9 9 0 := ⟨by decide, (RX9, TX9, 7), rfl, tb1 (List.mem_of_getElem? (i := 68) (by decide +kernel))⟩
theorem fl_RX9_15 : FLink RX9 15 9 1 := ⟨by decide, (RX9, TX9, 7), rfl, tb1 (List.mem_of_getElem? (i := 71) (by decide +kernel))⟩
theorem fl_RX9_19 : FLink RX9 19 9 2 := ⟨by decide, (RX9, TX9, 7), rfl, tb1 (List.mem_of_getElem? (i := 74) (by decide +kernel))⟩
theorem fl_RX9_22 : FLink RX9 22 9 3 := ⟨by decide, (RX9, TX9, 7), rfl, tb1 (List.mem_of_getElem? (i := 78) (by decide +kernel))⟩
theorem fl_RX9_26 : FLink RX9 26 9 4 := ⟨by decide, (RX9, TX9, 7), rfl, tb1 (List.mem_of_getElem? (i := 81) (by decide +kernel))⟩
theorem fl_RX9_29 : FLink RX9 29 9 5 := ⟨by decide, (RX9, TX9, 7), rfl, tb1 (List.mem_of_getElem? (i := 87) (by decide +kernel))⟩
theorem fl_RX9_32 : FLink RX9 32 9 6 := ⟨by decide, (RX9, TX9, 7), rfl, tb1 (List.mem_of_getElem? (i := 92) (by decide +kernel))⟩
theorem fl_RX11_9 : FLink RX11 9 11 3 := ⟨by decide, (RX11, TX11, 60), rfl, tb6 (List.mem_of_getElem? (i := 116) (by decide +kernel))⟩
theorem fl_RX11_13 : FLink RX11 13 11 4 := ⟨by decide, (RX11, TX11, 60), rfl, tb6 (List.mem_of_getElem? (i := 117) (by decide +kernel))⟩
theorem fl_RX11_16 : FLink RX11 16 11 5 := ⟨by decide, (RX11, TX11, 60), rfl, tb6 (List.mem_of_getElem? (i := 118) (by decide +kernel))⟩
theorem fl_RX11_20 : FLink RX11 20 11 6 := ⟨by decide, (RX11, TX11, 60), rfl, tb6 (List.mem_of_getElem? (i := 119) (by decide +kernel))⟩
theorem fl_RX11_23 : FLink RX11 23 11 7 := ⟨by decide, (RX11, TX11, 60), rfl, tb6 (List.mem_of_getElem? (i := 120) (by decide +kernel))⟩
theorem fl_RX11_26 : FLink RX11 26 11 10 := ⟨by decide, (RX11, TX11, 60), rfl, tb6 (List.mem_of_getElem? (i := 123) (by decide +kernel))⟩
theorem fl_RX11_29 : FLink RX11 29 11 11 := ⟨by decide, (RX11, TX11, 60), rfl, tb6 (List.mem_of_getElem? (i := 124) (by decide +kernel))⟩
theorem fl_RX11_32 : FLink RX11 32 11 29 := ⟨by decide, (RX11, TX11, 60), rfl, tb6 (List.mem_of_getElem? (i := 142) (by decide +kernel))⟩
theorem fl_RX11_35 : FLink RX11 35 11 30 := ⟨by decide, (RX11, TX11, 60), rfl, tb6 (List.mem_of_getElem? (i := 143) (by decide +kernel))⟩
theorem fl_RX11_38 : FLink RX11 38 11 31 := ⟨by decide, (RX11, TX11, 60), rfl, tb6 (List.mem_of_getElem? (i := 144) (by decide +kernel))⟩
theorem fl_RX11_41 : FLink RX11 41 11 32 := ⟨by decide, (RX11, TX11, 60), rfl, tb6 (List.mem_of_getElem? (i := 145) (by decide +kernel))⟩
theorem fl_RX11_44 : FLink RX11 44 11 33 := ⟨by decide, (RX11, TX11, 60), rfl, tb6 (List.mem_of_getElem? (i := 146) (by decide +kernel))⟩
theorem fl_RX11_48 : FLink RX11 48 11 34 := ⟨by decide, (RX11, TX11, 60), rfl, tb6 (List.mem_of_getElem? (i := 147) (by decide +kernel))⟩
theorem fl_RX11_51 : FLink RX11 51 11 35 := ⟨by decide, (RX11, TX11, 60), rfl, tb6 (List.mem_of_getElem? (i := 148) (by decide +kernel))⟩
theorem fl_RX11_54 : FLink RX11 54 11 37 := ⟨by decide, (RX11, TX11, 60), rfl, tb6 (List.mem_of_getElem? (i := 150) (by decide +kernel))⟩
theorem fl_RX11_57 : FLink RX11 57 11 38 := ⟨by decide, (RX11, TX11, 60), rfl, tb6 (List.mem_of_getElem? (i := 151) (by decide +kernel))⟩
theorem fl_RX11_60 : FLink RX11 60 11 39 := ⟨by decide, (RX11, TX11, 60), rfl, tb6 (List.mem_of_getElem? (i := 152) (by decide +kernel))⟩
theorem fl_RX11_63 : FLink RX11 63 11 40 := ⟨by decide, (RX11, TX11, 60), rfl, tb6 (List.mem_of_getElem? (i := 153) (by decide +kernel))⟩
theorem fl_RX11_66 : FLink RX11 66 11 41 := ⟨by decide, (RX11, TX11, 60), rfl, tb6 (List.mem_of_getElem? (i := 154) (by decide +kernel))⟩
theorem fl_RX11_69 : FLink RX11 69 11 44 := ⟨by decide, (RX11, TX11, 60), rfl, tb6 (List.mem_of_getElem? (i := 157) (by decide +kernel))⟩
theorem fl_RX11_72 : FLink RX11 72 11 46 := ⟨by decide, (RX11, TX11, 60), rfl, tb6 (List.mem_of_getElem? (i := 159) (by decide +kernel))⟩
theorem fl_RX11_75 : FLink RX11 75 11 47 := ⟨by decide, (RX11, TX11, 60), rfl, tb6 (List.mem_of_getElem? (i := 160) (by decide +kernel))⟩
theorem fl_RX11_78 : FLink RX11 78 11 48 := ⟨by decide, (RX11, TX11, 60), rfl, tb6 (List.mem_of_getElem? (i := 161) (by decide +kernel))⟩
theorem fl_RX11_81 : FLink RX11 81 11 50 := ⟨by decide, (RX11, TX11, 60), rfl, tb6 (List.mem_of_getElem? (i := 163) (by decide +kernel))⟩
theorem fl_RX11_84 : FLink RX11 84 11 51 := ⟨by decide, (RX11, TX11, 60), rfl, tb6 (List.mem_of_getElem? (i := 164) (by decide +kernel))⟩
theorem fl_RX11_87 : FLink RX11 87 11 52 := ⟨by decide, (RX11, TX11, 60), rfl, tb6 (List.mem_of_getElem? (i := 165) (by decide +kernel))⟩
theorem fl_RX11_90 : FLink RX11 90 11 57 := ⟨by decide, (RX11, TX11, 60), rfl, tb6 (List.mem_of_getElem? (i := 170) (by decide +kernel))⟩
theorem fl_RX11_93 : FLink RX11 93 11 58 := ⟨by decide, (RX11, TX11, 60), rfl, tb6 (List.mem_of_getElem? (i := 171) (by decide +kernel))⟩
theorem fl_RX11_96 : FLink RX11 96 11 59 := ⟨by decide, (RX11, TX11, 60), rfl, tb6 (List.mem_of_getElem? (i := 172) (by decide +kernel))⟩
theorem fl_RX11_99 : FLink RX11 99 11 0 := ⟨by decide, (RX11, TX11, 60), rfl, tb6 (List.mem_of_getElem? (i := 113) (by decide +kernel))⟩
theorem fl_RX11_102 : FLink RX11 102 11 8 := ⟨by decide, (RX11, TX11, 60), rfl, tb6 (List.mem_of_getElem? (i := 121) (by decide +kernel))⟩
theorem fl_RX11_109 : FLink RX11 109 11 12 := ⟨by decide, (RX11, TX11, 60), rfl, tb6 (List.mem_of_getElem? (i := 125) (by decide +kernel))⟩
theorem fl_RX11_112 : FLink RX11 112 11 13 := ⟨by decide, (RX11, TX11, 60), rfl, tb6 (List.mem_of_getElem? (i := 126) (by decide +kernel))⟩
theorem fl_RX11_119 : FLink RX11 119 11 15 := ⟨by decide, (RX11, TX11, 60), rfl, tb6 (List.mem_of_getElem? (i := 128) (by decide +kernel))⟩
theorem fl_RX11_122 : FLink RX11 122 11 19 := ⟨by decide, (RX11, TX11, 60), rfl, tb6 (List.mem_of_getElem? (i := 132) (by decide +kernel))⟩
theorem fl_RX11_126 : FLink RX11 126 11 17 := ⟨by decide, (RX11, TX11, 60), rfl, tb6 (List.mem_of_getElem? (i := 130) (by decide +kernel))⟩
theorem fl_RX11_129 : FLink RX11 129 11 18 := ⟨by decide, (RX11, TX11, 60), rfl, tb6 (List.mem_of_getElem? (i := 131) (by decide +kernel))⟩
theorem fl_RX11_132 : FLink RX11 132 11 14 := ⟨by decide, (RX11, TX11, 60), rfl, tb6 (List.mem_of_getElem? (i := 127) (by decide +kernel))⟩
theorem fl_RX11_142 : FLink RX11 142 11 16 := ⟨by decide, (RX11, TX11, 60), rfl, tb6 (List.mem_of_getElem? (i := 129) (by decide +kernel))⟩
theorem fl_RX11_155 : FLink RX11 155 11 9 := ⟨by decide, (RX11, TX11, 60), rfl, tb6 (List.mem_of_getElem? (i := 122) (by decide +kernel))⟩
theorem fl_RX11_168 : FLink RX11 168 11 24 := ⟨by decide, (RX11, TX11, 60), rfl, tb6 (List.mem_of_getElem? (i := 137) (by decide +kernel))⟩
theorem fl_RX11_171 : FLink RX11 171 11 27 := ⟨by decide, (RX11, TX11, 60), rfl, tb6 (List.mem_of_getElem? (i := 140) (by decide +kernel))⟩
theorem fl_RX11_187 : FLink RX11 187 11 25 := ⟨by decide, (RX11, TX11, 60), rfl, tb6 (List.mem_of_getElem? (i := 138) (by decide +kernel))⟩
theorem fl_RX11_190 : FLink RX11 190 11 26 := ⟨by decide, (RX11, TX11, 60), rfl, tb6 (List.mem_of_getElem? (i := 139) (by decide +kernel))⟩
theorem fl_RX11_193 : FLink RX11 193 11 28 := ⟨by decide, (RX11, TX11, 60), rfl, tb6 (List.mem_of_getElem? (i := 141) (by decide +kernel))⟩
theorem fl_RX11_221 : FLink RX11 221 11 20 := ⟨by decide, (RX11, TX11, 60), rfl, tb6 (List.mem_of_getElem? (i := 133) (by decide +kernel))⟩
theorem fl_RX11_234 : FLink RX11 234 11 21 := ⟨by decide, (RX11, TX11, 60), rfl, tb6 (List.mem_of_getElem? (i := 134) (by decide +kernel))⟩
theorem fl_RX11_253 : FLink RX11 253 11 22 := ⟨by decide, (RX11, TX11, 60), rfl, tb6 (List.mem_of_getElem? (i := 135) (by decide +kernel))⟩
theorem fl_RX11_260 : FLink RX11 260 11 23 := ⟨by decide, (RX11, TX11, 60), rfl, tb6 (List.mem_of_getElem? (i := 136) (by decide +kernel))⟩
theorem fl_RX11_273 : FLink RX11 273 11 1 := ⟨by decide, (RX11, TX11, 60), rfl, tb6 (List.mem_of_getElem? (i := 114) (by decide +kernel))⟩
theorem fl_RX11_276 : FLink RX11 276 11 2 := ⟨by decide, (RX11, TX11, 60), rfl, tb6 (List.mem_of_getElem? (i := 115) (by decide +kernel))⟩
theorem fl_RX11_283 : FLink RX11 283 11 36 := ⟨by decide, (RX11, TX11, 60), rfl, tb6 (List.mem_of_getElem? (i := 149) (by decide +kernel))⟩
theorem fl_RX11_286 : FLink RX11 286 11 49 := ⟨by decide, (RX11, TX11, 60), rfl, tb6 (List.mem_of_getElem? (i := 162) (by decide +kernel))⟩
theorem fl_RX11_289 : FLink RX11 289 11 54 := ⟨by decide, (RX11, TX11, 60), rfl, tb6 (List.mem_of_getElem? (i := 167) (by decide +kernel))⟩
theorem fl_RX11_310 : FLink RX11 310 11 45 := ⟨by decide, (RX11, TX11, 60), rfl, tb6 (List.mem_of_getElem? (i := 158) (by decide +kernel))⟩
theorem fl_RX11_323 : FLink RX11 323 11 42 := ⟨by decide, (RX11, TX11, 60), rfl, tb6 (List.mem_of_getElem? (i := 155) (by decide +kernel))⟩
theorem fl_RX11_326 : FLink RX11 326 11 43 := ⟨by decide, (RX11, TX11, 60), rfl, tb6 (List.mem_of_getElem? (i := 156) (by decide +kernel))⟩
theorem fl_RX11_429 : FLink RX11 429 11 53 := ⟨by decide, (RX11, TX11, 60), rfl, tb6 (List.mem_of_getElem? (i := 166) (by decide +kernel))⟩
theorem fl_RX11_445 : FLink RX11 445 11 55 := ⟨by decide, (RX11, TX11, 60), rfl, tb6 (List.mem_of_getElem? (i := 168) (by decide +kernel))⟩
theorem fl_RX11_448 : FLink RX11 448 11 56 := ⟨by decide, (RX11, TX11, 60), rfl, tb6 (List.mem_of_getElem? (i := 169) (by decide +kernel))⟩
theorem fl_RJ0_15 : Cond.fieldLink RJ0 15 "java/lang/String" "coder" "B" ∈ lw_tbl := tb9 (List.mem_of_getElem? (i := 49) (by decide +kernel))
theorem fl_RJ0_38 : Cond.fieldLink RJ0 38 "java/lang/String" "COMPACT_STRINGS" "Z" ∈ lw_tbl := tb3 (List.mem_of_getElem? (i := 195) (by decide +kernel))
theorem fl_RJ0_9 : Cond.fieldLink RJ0 9 "java/lang/String" "value" "[B" ∈ lw_tbl := tb9 (List.mem_of_getElem? (i := 50) (by decide +kernel))
theorem ml_RX10_1 : Cond.methodLink RX10 1 objectInit ∈ lw_tbl := tb1 (List.mem_of_getElem? (i := 31) (by decide +kernel))
theorem ml_RX10_25 : Cond.methodLinkNest RX10 25 yX1_init "MarginWays" ∈ lw_tbl := tb1 (List.mem_of_getElem? (i := 36) (by decide +kernel))
theorem ml_RX10_35 : Cond.methodLink RX10 35 yX6_init ∈ lw_tbl := tb1 (List.mem_of_getElem? (i := 155) (by decide +kernel))
theorem ml_RX10_44 : Cond.methodLink RX10 44 yX9_init ∈ lw_tbl := tb1 (List.mem_of_getElem? (i := 197) (by decide +kernel))
theorem ml_RX10_51 : Cond.methodLink RX10 51 yX0_init ∈ lw_tbl := tb1 (List.mem_of_getElem? (i := 200) (by decide +kernel))
theorem ml_RX10_58 : Cond.methodLinkNest RX10 58 yX8_init "MarginWays" ∈ lw_tbl := tb1 (List.mem_of_getElem? (i := 220) (by decide +kernel))
theorem ml_RX10_78 : Cond.methodLink RX10 78 yX2_init ∈ lw_tbl := tb2 (List.mem_of_getElem? (i := 0) (by decide +kernel))
theorem ml_RX10_85 : Cond.methodLinkNest RX10 85 yX5_init "MarginWays" ∈ lw_tbl := tb2 (List.mem_of_getElem? (i := 62) (by decide +kernel))
theorem ml_RX10_92 : Cond.methodLinkNest RX10 92 yX4_init "MarginWays" ∈ lw_tbl := tb2 (List.mem_of_getElem? (i := 65) (by decide +kernel))
theorem ml_RX10_99 : Cond.methodLinkNest RX10 99 yX3_init "MarginWays" ∈ lw_tbl := tb2 (List.mem_of_getElem? (i := 83) (by decide +kernel))
theorem ml_RX10_113 : Cond.methodLink RX10 113 yX10_putBytes ∈ lw_tbl := tb2 (List.mem_of_getElem? (i := 158) (by decide +kernel))
theorem ml_RX10_124 : Cond.methodLink RX10 124 yX6_read ∈ lw_tbl := tb3 (List.mem_of_getElem? (i := 148) (by decide +kernel))
theorem ml_RX10_132 : Cond.methodLink RX10 132 yX9_copyFrom ∈ lw_tbl := tb3 (List.mem_of_getElem? (i := 40) (by decide +kernel))
theorem ml_RX10_136 : Cond.methodLink RX10 136 yX0_drop ∈ lw_tbl := tb4 (List.mem_of_getElem? (i := 145) (by decide +kernel))
theorem ml_RX10_139 : Cond.methodLink RX10 139 yX8_drop ∈ lw_tbl := tb3 (List.mem_of_getElem? (i := 53) (by decide +kernel))
theorem ml_RX10_140 : Cond.methodLink RX10 140 yX10_needWhat ∈ lw_tbl := tb4 (List.mem_of_getElem? (i := 157) (by decide +kernel))
theorem ml_RX10_153 : Cond.methodLink RX10 153 yX10_here ∈ lw_tbl := tb4 (List.mem_of_getElem? (i := 177) (by decide +kernel))
theorem ml_RX10_157 : Cond.methodLink RX10 157 yX5_parts ∈ lw_tbl := tb4 (List.mem_of_getElem? (i := 182) (by decide +kernel))
theorem ml_RX10_165 : Cond.methodLink RX10 165 yJ13_bitCount_95d88 ∈ lw_tbl := tb3 (List.mem_of_getElem? (i := 9) (by decide +kernel))
theorem ml_RX10_171 : Cond.methodLink RX10 171 yX10_inked ∈ lw_tbl := tb4 (List.mem_of_getElem? (i := 190) (by decide +kernel))
theorem ml_RX10_175 : Cond.methodLink RX10 175 yX9_sentBits ∈ lw_tbl := tb4 (List.mem_of_getElem? (i := 195) (by decide +kernel))
theorem ml_RX10_178 : Cond.methodLink RX10 178 yX9_metByAll ∈ lw_tbl := tb4 (List.mem_of_getElem? (i := 199) (by decide +kernel))
theorem ml_RX10_185 : Cond.methodLink RX10 185 yX10_needDeed ∈ lw_tbl := tb4 (List.mem_of_getElem? (i := 210) (by decide +kernel))
theorem ml_RX10_194 : Cond.methodLink RX10 194 yX10_bitsOfDeed ∈ lw_tbl := tb4 (List.mem_of_getElem? (i := 215) (by decide +kernel))
theorem ml_RX10_198 : Cond.methodLink RX10 198 yX10_inkOfDeed ∈ lw_tbl := tb4 (List.mem_of_getElem? (i := 218) (by decide +kernel))
theorem ml_RX10_202 : Cond.methodLink RX10 202 yX10_peopleOfDeed ∈ lw_tbl := tb4 (List.mem_of_getElem? (i := 222) (by decide +kernel))
theorem ml_RX10_211 : Cond.methodLink RX10 211 yX10_needPerson ∈ lw_tbl := tb4 (List.mem_of_getElem? (i := 233) (by decide +kernel))
theorem ml_RX10_214 : Cond.methodLink RX10 214 yX10_outside ∈ lw_tbl := tb4 (List.mem_of_getElem? (i := 238) (by decide +kernel))
theorem ml_RX10_226 : Cond.methodLink RX10 226 yX5_far ∈ lw_tbl := tb5 (List.mem_of_getElem? (i := 1) (by decide +kernel))
theorem ml_RX10_230 : Cond.methodLink RX10 230 yX9_others ∈ lw_tbl := tb5 (List.mem_of_getElem? (i := 2) (by decide +kernel))
theorem ml_RX10_233 : Cond.methodLink RX10 233 yX10_inside ∈ lw_tbl := tb5 (List.mem_of_getElem? (i := 10) (by decide +kernel))
theorem ml_RX10_236 : Cond.methodLink RX10 236 yX0_keep ∈ lw_tbl := tb2 (List.mem_of_getElem? (i := 170) (by decide +kernel))
theorem ml_RX10_239 : Cond.methodLink RX10 239 yX10_runAhead ∈ lw_tbl := tb2 (List.mem_of_getElem? (i := 181) (by decide +kernel))
theorem ml_RX10_245 : Cond.methodLink RX10 245 yX9_setInk ∈ lw_tbl := tb5 (List.mem_of_getElem? (i := 22) (by decide +kernel))
theorem ml_RX10_248 : Cond.methodLink RX10 248 yX10_bit ∈ lw_tbl := tb5 (List.mem_of_getElem? (i := 30) (by decide +kernel))
theorem ml_RX10_252 : Cond.methodLink RX10 252 yX1_has ∈ lw_tbl := tb5 (List.mem_of_getElem? (i := 31) (by decide +kernel))
theorem ml_RX10_256 : Cond.methodLink RX10 256 yX0_takeBack ∈ lw_tbl := tb3 (List.mem_of_getElem? (i := 45) (by decide +kernel))
theorem ml_RX10_260 : Cond.methodLink RX10 260 yX10_needWithin ∈ lw_tbl := tb5 (List.mem_of_getElem? (i := 56) (by decide +kernel))
theorem ml_RX10_264 : Cond.methodLink RX10 264 yX2_begin ∈ lw_tbl := tb2 (List.mem_of_getElem? (i := 185) (by decide +kernel))
theorem ml_RX10_268 : Cond.methodLink RX10 268 yX2_pass ∈ lw_tbl := tb2 (List.mem_of_getElem? (i := 190) (by decide +kernel))
theorem ml_RX10_275 : Cond.methodLink RX10 275 yX9_crowdedPlace ∈ lw_tbl := tb5 (List.mem_of_getElem? (i := 82) (by decide +kernel))
theorem ml_RX10_278 : Cond.methodLink RX10 278 yX9_crowd ∈ lw_tbl := tb5 (List.mem_of_getElem? (i := 86) (by decide +kernel))
theorem ml_RX10_284 : Cond.methodLink RX10 284 yX9_thickestPlace ∈ lw_tbl := tb6 (List.mem_of_getElem? (i := 73) (by decide +kernel))
theorem ml_RX10_290 : Cond.methodLink RX10 290 yX5_stepOf ∈ lw_tbl := tb5 (List.mem_of_getElem? (i := 101) (by decide +kernel))
theorem ml_RX10_293 : Cond.methodLink RX10 293 yX5_fewestToClear ∈ lw_tbl := tb5 (List.mem_of_getElem? (i := 102) (by decide +kernel))
theorem ml_RX10_296 : Cond.methodLink RX10 296 yX5_needed ∈ lw_tbl := tb5 (List.mem_of_getElem? (i := 106) (by decide +kernel))
theorem ml_RX10_300 : Cond.methodLink RX10 300 yX5_flood ∈ lw_tbl := tb5 (List.mem_of_getElem? (i := 117) (by decide +kernel))
theorem ml_RX10_304 : Cond.methodLink RX10 304 yX5_spread ∈ lw_tbl := tb5 (List.mem_of_getElem? (i := 125) (by decide +kernel))
theorem ml_RX10_310 : Cond.methodLink RX10 310 yX10_lowest ∈ lw_tbl := tb5 (List.mem_of_getElem? (i := 129) (by decide +kernel))
theorem ml_RX10_313 : Cond.methodLink RX10 313 yX5_shortestWays ∈ lw_tbl := tb6 (List.mem_of_getElem? (i := 84) (by decide +kernel))
theorem ml_RX10_316 : Cond.methodLink RX10 316 yX10_comers ∈ lw_tbl := tb5 (List.mem_of_getElem? (i := 137) (by decide +kernel))
theorem ml_RX10_319 : Cond.methodLink RX10 319 yX10_farForAll ∈ lw_tbl := tb5 (List.mem_of_getElem? (i := 141) (by decide +kernel))
theorem ml_RX10_322 : Cond.methodLink RX10 322 yX4_weigh ∈ lw_tbl := tb5 (List.mem_of_getElem? (i := 152) (by decide +kernel))
theorem ml_RX10_326 : Cond.methodLink RX10 326 yX4_many ∈ lw_tbl := tb5 (List.mem_of_getElem? (i := 171) (by decide +kernel))
theorem ml_RX10_329 : Cond.methodLink RX10 329 yX4_farInAll ∈ lw_tbl := tb5 (List.mem_of_getElem? (i := 175) (by decide +kernel))
theorem ml_RX10_332 : Cond.methodLink RX10 332 yX4_takenBy ∈ lw_tbl := tb5 (List.mem_of_getElem? (i := 187) (by decide +kernel))
theorem ml_RX10_335 : Cond.methodLink RX10 335 yX8_keep ∈ lw_tbl := tb5 (List.mem_of_getElem? (i := 202) (by decide +kernel))
theorem ml_RX10_337 : Cond.methodLink RX10 337 yX10_isSeenWith ∈ lw_tbl := tb5 (List.mem_of_getElem? (i := 213) (by decide +kernel))
theorem ml_RX10_341 : Cond.methodLink RX10 341 yX10_beginWith ∈ lw_tbl := tb5 (List.mem_of_getElem? (i := 217) (by decide +kernel))
theorem ml_RX10_344 : Cond.methodLink RX10 344 yX8_lastDay ∈ lw_tbl := tb5 (List.mem_of_getElem? (i := 221) (by decide +kernel))
theorem ml_RX10_347 : Cond.methodLink RX10 347 yX8_agreesOn ∈ lw_tbl := tb5 (List.mem_of_getElem? (i := 226) (by decide +kernel))
theorem ml_RX10_352 : Cond.methodLink RX10 352 yX10_addPlacesWith ∈ lw_tbl := tb5 (List.mem_of_getElem? (i := 237) (by decide +kernel))
theorem ml_RX10_355 : Cond.methodLink RX10 355 yX10_mostLookedFor ∈ lw_tbl := tb6 (List.mem_of_getElem? (i := 1) (by decide +kernel))
theorem ml_RX10_358 : Cond.methodLink RX10 358 yX10_weightOf ∈ lw_tbl := tb6 (List.mem_of_getElem? (i := 12) (by decide +kernel))
theorem ml_RX10_362 : Cond.methodLink RX10 362 yX10_hasComeBy ∈ lw_tbl := tb6 (List.mem_of_getElem? (i := 18) (by decide +kernel))
theorem ml_RX10_366 : Cond.methodLink RX10 366 yX10_isLit ∈ lw_tbl := tb6 (List.mem_of_getElem? (i := 15) (by decide +kernel))
theorem ml_RX10_371 : Cond.methodLink RX10 371 yX10_play ∈ lw_tbl := tb6 (List.mem_of_getElem? (i := 30) (by decide +kernel))
theorem ml_RX10_374 : Cond.methodLink RX10 374 yX10_rests ∈ lw_tbl := tb6 (List.mem_of_getElem? (i := 38) (by decide +kernel))
theorem ml_RX10_377 : Cond.methodLink RX10 377 yX10_gainOf ∈ lw_tbl := tb6 (List.mem_of_getElem? (i := 34) (by decide +kernel))
theorem ml_RX10_383 : Cond.methodLink RX10 383 yX10_drawWhatHappens ∈ lw_tbl := tb6 (List.mem_of_getElem? (i := 49) (by decide +kernel))
theorem ml_RX10_386 : Cond.methodLink RX10 386 yX2_comingsOfAll ∈ lw_tbl := tb6 (List.mem_of_getElem? (i := 62) (by decide +kernel))
theorem ml_RX10_389 : Cond.methodLink RX10 389 yX3_draw ∈ lw_tbl := tb6 (List.mem_of_getElem? (i := 53) (by decide +kernel))
theorem ml_RX10_392 : Cond.methodLink RX10 392 yX10_drawPlace ∈ lw_tbl := tb6 (List.mem_of_getElem? (i := 58) (by decide +kernel))
theorem ml_RX10_395 : Cond.methodLink RX10 395 yX0_copyFrom ∈ lw_tbl := tb3 (List.mem_of_getElem? (i := 61) (by decide +kernel))
theorem ml_RX10_398 : Cond.methodLink RX10 398 yX8_copyFrom ∈ lw_tbl := tb3 (List.mem_of_getElem? (i := 65) (by decide +kernel))
theorem ml_RX10_419 : Cond.methodLink RX10 419 yX5_lay ∈ lw_tbl := tb4 (List.mem_of_getElem? (i := 181) (by decide +kernel))
theorem ml_RX0_3 : Cond.methodLink RX0 3 objectInit ∈ lw_tbl := tb1 (List.mem_of_getElem? (i := 203) (by decide +kernel))
theorem ml_RX0_24 : Cond.methodLink RX0 24 yX9_init ∈ lw_tbl := tb1 (List.mem_of_getElem? (i := 206) (by decide +kernel))
theorem ml_RX0_25 : Cond.methodLink RX0 25 yX9_copyFrom ∈ lw_tbl := tb2 (List.mem_of_getElem? (i := 174) (by decide +kernel))
theorem ml_RX1_3 : Cond.methodLink RX1 3 objectInit ∈ lw_tbl := tb1 (List.mem_of_getElem? (i := 39) (by decide +kernel))
theorem ml_RX1_31 : Cond.methodLinkNest RX1 31 yX7_init "MarginWays" ∈ lw_tbl := tb1 (List.mem_of_getElem? (i := 42) (by decide +kernel))
theorem ml_RX1_41 : Cond.methodLink RX1 41 yX9_init ∈ lw_tbl := tb1 (List.mem_of_getElem? (i := 60) (by decide +kernel))
theorem ml_RX1_49 : Cond.methodLink RX1 49 yX9_empty ∈ lw_tbl := tb3 (List.mem_of_getElem? (i := 157) (by decide +kernel))
theorem ml_RX1_52 : Cond.methodLinkNest RX1 52 yX10_bit "MarginWays" ∈ lw_tbl := tb4 (List.mem_of_getElem? (i := 75) (by decide +kernel))
theorem ml_RX1_56 : Cond.methodLink RX1 56 yX9_setInk ∈ lw_tbl := tb4 (List.mem_of_getElem? (i := 76) (by decide +kernel))
theorem ml_RX2_3 : Cond.methodLink RX2 3 objectInit ∈ lw_tbl := tb2 (List.mem_of_getElem? (i := 3) (by decide +kernel))
theorem ml_RX2_11 : Cond.methodLink RX2 11 yX9_init ∈ lw_tbl := tb2 (List.mem_of_getElem? (i := 5) (by decide +kernel))
theorem ml_RX2_20 : Cond.methodLinkNest RX2 20 yX5_init "MarginWays" ∈ lw_tbl := tb2 (List.mem_of_getElem? (i := 8) (by decide +kernel))
theorem ml_RX2_46 : Cond.methodLink RX2 46 yX9_copyFrom ∈ lw_tbl := tb2 (List.mem_of_getElem? (i := 189) (by decide +kernel))
theorem ml_RX2_53 : Cond.methodLink RX2 53 yX5_lay ∈ lw_tbl := tb2 (List.mem_of_getElem? (i := 194) (by decide +kernel))
theorem ml_RX2_63 : Cond.methodLink RX2 63 yX2_walk ∈ lw_tbl := tb2 (List.mem_of_getElem? (i := 198) (by decide +kernel))
theorem ml_RX2_70 : Cond.methodLink RX2 70 yX2_greet ∈ lw_tbl := tb3 (List.mem_of_getElem? (i := 15) (by decide +kernel))
theorem ml_RX2_73 : Cond.methodLink RX2 73 yX2_fade ∈ lw_tbl := tb3 (List.mem_of_getElem? (i := 22) (by decide +kernel))
theorem ml_RX2_79 : Cond.methodLink RX2 79 yX5_far ∈ lw_tbl := tb2 (List.mem_of_getElem? (i := 202) (by decide +kernel))
theorem ml_RX2_83 : Cond.methodLink RX2 83 yX2_goesOn ∈ lw_tbl := tb2 (List.mem_of_getElem? (i := 216) (by decide +kernel))
theorem ml_RX2_87 : Cond.methodLink RX2 87 yX5_stepOf ∈ lw_tbl := tb3 (List.mem_of_getElem? (i := 2) (by decide +kernel))
theorem ml_RX2_94 : Cond.methodLink RX2 94 yX7_isTold ∈ lw_tbl := tb2 (List.mem_of_getElem? (i := 220) (by decide +kernel))
theorem ml_RX2_100 : Cond.methodLink RX2 100 yX9_others ∈ lw_tbl := tb2 (List.mem_of_getElem? (i := 224) (by decide +kernel))
theorem ml_RX2_107 : Cond.methodLink RX2 107 yX7_evaluate ∈ lw_tbl := tb2 (List.mem_of_getElem? (i := 232) (by decide +kernel))
theorem ml_RX2_111 : Cond.methodLink RX2 111 Lib.Math.min.name ∈ lw_tbl := tb3 (List.mem_of_getElem? (i := 19) (by decide +kernel))
theorem ml_RX2_119 : Cond.methodLink RX2 119 yX2_fadesBy ∈ lw_tbl := tb3 (List.mem_of_getElem? (i := 26) (by decide +kernel))
theorem ml_RX2_122 : Cond.methodLink RX2 122 Lib.Math.max.name ∈ lw_tbl := tb3 (List.mem_of_getElem? (i := 31) (by decide +kernel))
theorem ml_RX2_125 : Cond.methodLink RX2 125 yX9_setInk ∈ lw_tbl := tb3 (List.mem_of_getElem? (i := 34) (by decide +kernel))
theorem ml_RX2_132 : Cond.methodLink RX2 132 yX9_crowd ∈ lw_tbl := tb3 (List.mem_of_getElem? (i := 30) (by decide +kernel))
theorem ml_RX3_1 : Cond.methodLink RX3 1 objectInit ∈ lw_tbl := tb2 (List.mem_of_getElem? (i := 86) (by decide +kernel))
theorem ml_RX4_3 : Cond.methodLink RX4 3 objectInit ∈ lw_tbl := tb2 (List.mem_of_getElem? (i := 68) (by decide +kernel))
theorem ml_RX4_23 : Cond.methodLink RX4 23 Lib.Math.min.name ∈ lw_tbl := tb5 (List.mem_of_getElem? (i := 156) (by decide +kernel))
theorem ml_RX4_38 : Cond.methodLink RX4 38 yX5_far ∈ lw_tbl := tb5 (List.mem_of_getElem? (i := 157) (by decide +kernel))
theorem ml_RX4_42 : Cond.methodLink RX4 42 yX4_bestOf ∈ lw_tbl := tb5 (List.mem_of_getElem? (i := 158) (by decide +kernel))
theorem ml_RX4_45 : Cond.methodLink RX4 45 yX4_isFree ∈ lw_tbl := tb5 (List.mem_of_getElem? (i := 162) (by decide +kernel))
theorem ml_RX4_49 : Cond.methodLink RX4 49 yX4_worthOf ∈ lw_tbl := tb5 (List.mem_of_getElem? (i := 166) (by decide +kernel))
theorem ml_RX4_53 : Cond.methodLink RX4 53 Lib.Math.max.name ∈ lw_tbl := tb5 (List.mem_of_getElem? (i := 170) (by decide +kernel))
theorem ml_RX4_56 : Cond.methodLink RX4 56 yX4_many ∈ lw_tbl := tb5 (List.mem_of_getElem? (i := 179) (by decide +kernel))
theorem ml_RX4_60 : Cond.methodLink RX4 60 yX4_firstChoice ∈ lw_tbl := tb5 (List.mem_of_getElem? (i := 191) (by decide +kernel))
theorem ml_RX5_3 : Cond.methodLink RX5 3 objectInit ∈ lw_tbl := tb2 (List.mem_of_getElem? (i := 11) (by decide +kernel))
theorem ml_RX5_40 : Cond.methodLinkNest RX5 40 yX10_bit "MarginWays" ∈ lw_tbl := tb2 (List.mem_of_getElem? (i := 206) (by decide +kernel))
theorem ml_RX5_44 : Cond.methodLink RX5 44 yX5_beside ∈ lw_tbl := tb2 (List.mem_of_getElem? (i := 209) (by decide +kernel))
theorem ml_RX5_50 : Cond.methodLinkNest RX5 50 yX10_lowest "MarginWays" ∈ lw_tbl := tb3 (List.mem_of_getElem? (i := 6) (by decide +kernel))
theorem ml_RX5_54 : Cond.methodLink RX5 54 yX5_flood ∈ lw_tbl := tb4 (List.mem_of_getElem? (i := 186) (by decide +kernel))
theorem ml_RX5_58 : Cond.methodLink RX5 58 yX5_far ∈ lw_tbl := tb6 (List.mem_of_getElem? (i := 88) (by decide +kernel))
theorem ml_RX5_62 : Cond.methodLink RX5 62 yX5_pathsOver ∈ lw_tbl := tb6 (List.mem_of_getElem? (i := 89) (by decide +kernel))
theorem ml_RX6_3 : Cond.methodLink RX6 3 objectInit ∈ lw_tbl := tb1 (List.mem_of_getElem? (i := 158) (by decide +kernel))
theorem ml_RX6_56 : Cond.methodLink RX6 56 Lib.Math.min.name ∈ lw_tbl := tb3 (List.mem_of_getElem? (i := 152) (by decide +kernel))
theorem ml_RX6_62 : Cond.methodLink RX6 62 yX1_empty ∈ lw_tbl := tb3 (List.mem_of_getElem? (i := 153) (by decide +kernel))
theorem ml_RX6_65 : Cond.methodLink RX6 65 yX6_advance ∈ lw_tbl := tb3 (List.mem_of_getElem? (i := 158) (by decide +kernel))
theorem ml_RX6_68 : Cond.methodLink RX6 68 yX6_readLine ∈ lw_tbl := tb4 (List.mem_of_getElem? (i := 25) (by decide +kernel))
theorem ml_RX6_71 : Cond.methodLink RX6 71 yX6_isBlank ∈ lw_tbl := tb3 (List.mem_of_getElem? (i := 162) (by decide +kernel))
theorem ml_RX6_75 : Cond.methodLink RX6 75 yX6_isLetter ∈ lw_tbl := tb3 (List.mem_of_getElem? (i := 165) (by decide +kernel))
theorem ml_RX6_78 : Cond.methodLink RX6 78 yX6_readWord ∈ lw_tbl := tb3 (List.mem_of_getElem? (i := 168) (by decide +kernel))
theorem ml_RX6_81 : Cond.methodLink RX6 81 yX6_isDigit ∈ lw_tbl := tb3 (List.mem_of_getElem? (i := 172) (by decide +kernel))
theorem ml_RX6_84 : Cond.methodLink RX6 84 yX6_readNumber ∈ lw_tbl := tb3 (List.mem_of_getElem? (i := 175) (by decide +kernel))
theorem ml_RX6_87 : Cond.methodLink RX6 87 yX6_isSign ∈ lw_tbl := tb3 (List.mem_of_getElem? (i := 179) (by decide +kernel))
theorem ml_RX6_92 : Cond.methodLink RX6 92 yJ0_indexOf_0f7a4 ∈ lw_tbl := tb3 (List.mem_of_getElem? (i := 183) (by decide +kernel))
theorem ml_RX6_98 : Cond.methodLink RX6 98 yJ0_length_8abf5 ∈ lw_tbl := tb4 (List.mem_of_getElem? (i := 34) (by decide +kernel))
theorem ml_RX6_101 : Cond.methodLink RX6 101 yX6_isAt ∈ lw_tbl := tb4 (List.mem_of_getElem? (i := 55) (by decide +kernel))
theorem ml_RX6_105 : Cond.methodLink RX6 105 yJ0_charAt_5068e ∈ lw_tbl := tb4 (List.mem_of_getElem? (i := 35) (by decide +kernel))
theorem ml_RX6_109 : Cond.methodLink RX6 109 yX6_refuse ∈ lw_tbl := tb4 (List.mem_of_getElem? (i := 63) (by decide +kernel))
theorem ml_RX6_115 : Cond.methodLink RX6 115 yX6_wordOf ∈ lw_tbl := tb4 (List.mem_of_getElem? (i := 30) (by decide +kernel))
theorem ml_RX6_119 : Cond.methodLink RX6 119 yX6_readDeed ∈ lw_tbl := tb4 (List.mem_of_getElem? (i := 59) (by decide +kernel))
theorem ml_RX6_122 : Cond.methodLink RX6 122 yX6_readStile ∈ lw_tbl := tb4 (List.mem_of_getElem? (i := 77) (by decide +kernel))
theorem ml_RX6_125 : Cond.methodLink RX6 125 yX6_readPerson ∈ lw_tbl := tb4 (List.mem_of_getElem? (i := 82) (by decide +kernel))
theorem ml_RX6_128 : Cond.methodLink RX6 128 yX6_readRule ∈ lw_tbl := tb4 (List.mem_of_getElem? (i := 95) (by decide +kernel))
theorem ml_RX6_137 : Cond.methodLink RX6 137 yX6_pass ∈ lw_tbl := tb4 (List.mem_of_getElem? (i := 137) (by decide +kernel))
theorem ml_RX6_143 : Cond.methodLink RX6 143 yX6_numberBelow ∈ lw_tbl := tb4 (List.mem_of_getElem? (i := 67) (by decide +kernel))
theorem ml_RX6_146 : Cond.methodLink RX6 146 yX1_addPlace ∈ lw_tbl := tb4 (List.mem_of_getElem? (i := 71) (by decide +kernel))
theorem ml_RX6_153 : Cond.methodLinkNest RX6 153 yX10_bit "MarginWays" ∈ lw_tbl := tb4 (List.mem_of_getElem? (i := 81) (by decide +kernel))
theorem ml_RX6_173 : Cond.methodLink RX6 173 yX6_readPlace ∈ lw_tbl := tb4 (List.mem_of_getElem? (i := 86) (by decide +kernel))
theorem ml_RX6_181 : Cond.methodLink RX6 181 yX6_isWord ∈ lw_tbl := tb4 (List.mem_of_getElem? (i := 91) (by decide +kernel))
theorem ml_RX6_188 : Cond.methodLink RX6 188 yX7_isTold ∈ lw_tbl := tb4 (List.mem_of_getElem? (i := 99) (by decide +kernel))
theorem ml_RX6_194 : Cond.methodLink RX6 194 yX6_readExpr ∈ lw_tbl := tb4 (List.mem_of_getElem? (i := 100) (by decide +kernel))
theorem ml_RX6_197 : Cond.methodLink RX6 197 yX6_readAnd ∈ lw_tbl := tb4 (List.mem_of_getElem? (i := 104) (by decide +kernel))
theorem ml_RX6_202 : Cond.methodLink RX6 202 yX7_add ∈ lw_tbl := tb4 (List.mem_of_getElem? (i := 141) (by decide +kernel))
theorem ml_RX6_205 : Cond.methodLink RX6 205 yX6_readNot ∈ lw_tbl := tb4 (List.mem_of_getElem? (i := 108) (by decide +kernel))
theorem ml_RX6_212 : Cond.methodLink RX6 212 yX6_readSum ∈ lw_tbl := tb4 (List.mem_of_getElem? (i := 113) (by decide +kernel))
theorem ml_RX6_215 : Cond.methodLink RX6 215 yX6_readProduct ∈ lw_tbl := tb4 (List.mem_of_getElem? (i := 117) (by decide +kernel))
theorem ml_RX6_218 : Cond.methodLink RX6 218 yX6_readPart ∈ lw_tbl := tb4 (List.mem_of_getElem? (i := 121) (by decide +kernel))
theorem ml_RX6_221 : Cond.methodLink RX6 221 yX6_readValue ∈ lw_tbl := tb4 (List.mem_of_getElem? (i := 125) (by decide +kernel))
theorem ml_RX6_224 : Cond.methodLink RX6 224 yX7_addValue ∈ lw_tbl := tb4 (List.mem_of_getElem? (i := 129) (by decide +kernel))
theorem ml_RX7_3 : Cond.methodLink RX7 3 objectInit ∈ lw_tbl := tb1 (List.mem_of_getElem? (i := 45) (by decide +kernel))
theorem ml_RX7_22 : Cond.methodLink RX7 22 yX7_add ∈ lw_tbl := tb4 (List.mem_of_getElem? (i := 133) (by decide +kernel))
theorem ml_RX7_26 : Cond.methodLink RX7 26 yX7_valueOf ∈ lw_tbl := tb2 (List.mem_of_getElem? (i := 236) (by decide +kernel))
theorem ml_RX7_30 : Cond.methodLink RX7 30 yX7_joined ∈ lw_tbl := tb2 (List.mem_of_getElem? (i := 239) (by decide +kernel))
theorem ml_RX8_3 : Cond.methodLink RX8 3 objectInit ∈ lw_tbl := tb1 (List.mem_of_getElem? (i := 223) (by decide +kernel))
theorem ml_RX8_25 : Cond.methodLink RX8 25 arraycopyName ∈ lw_tbl := tb3 (List.mem_of_getElem? (i := 69) (by decide +kernel))
theorem ml_RX8_31 : Cond.methodLink RX8 31 Lib.Math.max.name ∈ lw_tbl := tb5 (List.mem_of_getElem? (i := 225) (by decide +kernel))
theorem ml_RX9_3 : Cond.methodLink RX9 3 objectInit ∈ lw_tbl := tb1 (List.mem_of_getElem? (i := 63) (by decide +kernel))
theorem ml_RX9_35 : Cond.methodLink RX9 35 yX9_empty ∈ lw_tbl := tb1 (List.mem_of_getElem? (i := 64) (by decide +kernel))
theorem ml_RX9_38 : Cond.methodLink RX9 38 arraycopyName ∈ lw_tbl := tb2 (List.mem_of_getElem? (i := 178) (by decide +kernel))
theorem ml_RX9_44 : Cond.methodLinkNest RX9 44 yX10_bit "MarginWays" ∈ lw_tbl := tb3 (List.mem_of_getElem? (i := 38) (by decide +kernel))
theorem ml_RX9_50 : Cond.methodLink RX9 50 yX9_crowd ∈ lw_tbl := tb2 (List.mem_of_getElem? (i := 228) (by decide +kernel))
theorem ml_RL_7 : Cond.methodLink RL 7 yX10_cellar ∈ lw_tbl := tb3 (List.mem_of_getElem? (i := 78) (by decide +kernel))
theorem ml_RL_15 : Cond.methodLink RL 15 yX10_count ∈ lw_tbl := tb4 (List.mem_of_getElem? (i := 153) (by decide +kernel))
theorem ml_RL_20 : Cond.methodLink RL 20 yX10_deed ∈ lw_tbl := tb4 (List.mem_of_getElem? (i := 206) (by decide +kernel))
theorem ml_RL_24 : Cond.methodLink RL 24 yX10_person ∈ lw_tbl := tb4 (List.mem_of_getElem? (i := 229) (by decide +kernel))
theorem ml_RL_27 : Cond.methodLink RL 27 yX10_ink ∈ lw_tbl := tb5 (List.mem_of_getElem? (i := 6) (by decide +kernel))
theorem ml_RL_30 : Cond.methodLink RL 30 yX10_type ∈ lw_tbl := tb5 (List.mem_of_getElem? (i := 18) (by decide +kernel))
theorem ml_RL_33 : Cond.methodLink RL 33 yX10_stile ∈ lw_tbl := tb5 (List.mem_of_getElem? (i := 26) (by decide +kernel))
theorem ml_RL_37 : Cond.methodLink RL 37 yX10_send ∈ lw_tbl := tb5 (List.mem_of_getElem? (i := 38) (by decide +kernel))
theorem ml_RL_40 : Cond.methodLink RL 40 yX10_let ∈ lw_tbl := tb5 (List.mem_of_getElem? (i := 45) (by decide +kernel))
theorem ml_RL_43 : Cond.methodLink RL 43 yX10_then ∈ lw_tbl := tb5 (List.mem_of_getElem? (i := 52) (by decide +kernel))
theorem ml_RL_47 : Cond.methodLink RL 47 yX10_comes ∈ lw_tbl := tb5 (List.mem_of_getElem? (i := 64) (by decide +kernel))
theorem ml_RL_50 : Cond.methodLink RL 50 yX10_meet ∈ lw_tbl := tb5 (List.mem_of_getElem? (i := 71) (by decide +kernel))
theorem ml_RL_53 : Cond.methodLink RL 53 yX10_later ∈ lw_tbl := tb5 (List.mem_of_getElem? (i := 78) (by decide +kernel))
theorem ml_RL_56 : Cond.methodLink RL 56 yX10_clear ∈ lw_tbl := tb5 (List.mem_of_getElem? (i := 90) (by decide +kernel))
theorem ml_RL_59 : Cond.methodLink RL 59 yX10_way ∈ lw_tbl := tb5 (List.mem_of_getElem? (i := 97) (by decide +kernel))
theorem ml_RL_62 : Cond.methodLink RL 62 yX10_reached ∈ lw_tbl := tb5 (List.mem_of_getElem? (i := 113) (by decide +kernel))
theorem ml_RL_65 : Cond.methodLink RL 65 yX10_farthest ∈ lw_tbl := tb5 (List.mem_of_getElem? (i := 121) (by decide +kernel))
theorem ml_RL_68 : Cond.methodLink RL 68 yX10_gather ∈ lw_tbl := tb5 (List.mem_of_getElem? (i := 133) (by decide +kernel))
theorem ml_RL_71 : Cond.methodLink RL 71 yX10_errands ∈ lw_tbl := tb5 (List.mem_of_getElem? (i := 148) (by decide +kernel))
theorem ml_RL_74 : Cond.methodLink RL 74 yX10_errand ∈ lw_tbl := tb5 (List.mem_of_getElem? (i := 183) (by decide +kernel))
theorem ml_RL_77 : Cond.methodLink RL 77 yX10_see ∈ lw_tbl := tb5 (List.mem_of_getElem? (i := 198) (by decide +kernel))
theorem ml_RL_80 : Cond.methodLink RL 80 yX10_quick ∈ lw_tbl := tb5 (List.mem_of_getElem? (i := 209) (by decide +kernel))
theorem ml_RL_83 : Cond.methodLink RL 83 yX10_look ∈ lw_tbl := tb5 (List.mem_of_getElem? (i := 233) (by decide +kernel))
theorem ml_RL_86 : Cond.methodLink RL 86 yX10_candles ∈ lw_tbl := tb6 (List.mem_of_getElem? (i := 8) (by decide +kernel))
theorem ml_RL_89 : Cond.methodLink RL 89 yX10_game ∈ lw_tbl := tb6 (List.mem_of_getElem? (i := 25) (by decide +kernel))
theorem ml_RL_92 : Cond.methodLink RL 92 yX10_years ∈ lw_tbl := tb6 (List.mem_of_getElem? (i := 45) (by decide +kernel))
theorem ml_RL_95 : Cond.methodLink RL 95 yX10_ahead ∈ lw_tbl := tb6 (List.mem_of_getElem? (i := 69) (by decide +kernel))
theorem ml_RL_98 : Cond.methodLink RL 98 yX10_ways ∈ lw_tbl := tb6 (List.mem_of_getElem? (i := 80) (by decide +kernel))
theorem ml_RL_101 : Cond.methodLink RL 101 yX10_near ∈ lw_tbl := tb6 (List.mem_of_getElem? (i := 96) (by decide +kernel))
theorem ml_RL_104 : Cond.methodLink RL 104 yX10_gone ∈ lw_tbl := tb6 (List.mem_of_getElem? (i := 103) (by decide +kernel))
theorem ml_RX11_1 : Cond.methodLink RX11 1 objectInit ∈ lw_tbl := tb6 (List.mem_of_getElem? (i := 112) (by decide +kernel))
theorem ml_RX11_105 : Cond.methodLink RX11 105 yX11_lays ∈ lw_tbl := tb7 (List.mem_of_getElem? (i := 63) (by decide +kernel))
theorem ml_RX11_115 : Cond.methodLink RX11 115 yX11_byteAt ∈ lw_tbl := tb7 (List.mem_of_getElem? (i := 79) (by decide +kernel))
theorem ml_RX11_135 : Cond.methodLink RX11 135 yX11_isLetter ∈ lw_tbl := tb7 (List.mem_of_getElem? (i := 83) (by decide +kernel))
theorem ml_RX11_139 : Cond.methodLink RX11 139 yX11_isDigit ∈ lw_tbl := tb7 (List.mem_of_getElem? (i := 86) (by decide +kernel))
theorem ml_RX11_147 : Cond.methodLink RX11 147 yX11_spelled ∈ lw_tbl := tb7 (List.mem_of_getElem? (i := 104) (by decide +kernel))
theorem ml_RX11_151 : Cond.methodLink RX11 151 yX11_letters ∈ lw_tbl := tb7 (List.mem_of_getElem? (i := 101) (by decide +kernel))
theorem ml_RX11_158 : Cond.methodLink RX11 158 yX11_isGood ∈ lw_tbl := tb7 (List.mem_of_getElem? (i := 89) (by decide +kernel))
theorem ml_RX11_162 : Cond.methodLink RX11 162 yX11_goes ∈ lw_tbl := tb7 (List.mem_of_getElem? (i := 75) (by decide +kernel))
theorem ml_RX11_165 : Cond.methodLink RX11 165 yX11_wrong ∈ lw_tbl := tb7 (List.mem_of_getElem? (i := 112) (by decide +kernel))
theorem ml_RX11_174 : Cond.methodLink RX11 174 yX11_isOpen ∈ lw_tbl := tb7 (List.mem_of_getElem? (i := 175) (by decide +kernel))
theorem ml_RX11_177 : Cond.methodLink RX11 177 yX11_strength ∈ lw_tbl := tb7 (List.mem_of_getElem? (i := 178) (by decide +kernel))
theorem ml_RX11_180 : Cond.methodLink RX11 180 yX11_puts ∈ lw_tbl := tb7 (List.mem_of_getElem? (i := 167) (by decide +kernel))
theorem ml_RX11_183 : Cond.methodLink RX11 183 yX11_knownWord ∈ lw_tbl := tb7 (List.mem_of_getElem? (i := 97) (by decide +kernel))
theorem ml_RX11_196 : Cond.methodLink RX11 196 yX11_isSign ∈ lw_tbl := tb7 (List.mem_of_getElem? (i := 151) (by decide +kernel))
theorem ml_RX11_199 : Cond.methodLink RX11 199 yX11_waitsFor ∈ lw_tbl := tb7 (List.mem_of_getElem? (i := 159) (by decide +kernel))
theorem ml_RX11_202 : Cond.methodLink RX11 202 yX11_deeper ∈ lw_tbl := tb7 (List.mem_of_getElem? (i := 147) (by decide +kernel))
theorem ml_RX11_205 : Cond.methodLink RX11 205 yX11_part ∈ lw_tbl := tb7 (List.mem_of_getElem? (i := 163) (by decide +kernel))
theorem ml_RX11_208 : Cond.methodLink RX11 208 yX11_drops ∈ lw_tbl := tb7 (List.mem_of_getElem? (i := 171) (by decide +kernel))
theorem ml_RX11_211 : Cond.methodLink RX11 211 yX11_operand ∈ lw_tbl := tb7 (List.mem_of_getElem? (i := 155) (by decide +kernel))
theorem ml_RX11_215 : Cond.methodLink RX11 215 yX11_isOpened ∈ lw_tbl := tb7 (List.mem_of_getElem? (i := 181) (by decide +kernel))
theorem ml_RX11_218 : Cond.methodLink RX11 218 yX11_closes ∈ lw_tbl := tb7 (List.mem_of_getElem? (i := 185) (by decide +kernel))
theorem ml_RX11_224 : Cond.methodLink RX11 224 yX11_number ∈ lw_tbl := tb7 (List.mem_of_getElem? (i := 120) (by decide +kernel))
theorem ml_RX11_228 : Cond.methodLink RX11 228 yX11_isOneOf ∈ lw_tbl := tb7 (List.mem_of_getElem? (i := 128) (by decide +kernel))
theorem ml_RX11_231 : Cond.methodLink RX11 231 yX11_lesser ∈ lw_tbl := tb7 (List.mem_of_getElem? (i := 132) (by decide +kernel))
theorem ml_RX11_237 : Cond.methodLink RX11 237 yX11_readsPlace ∈ lw_tbl := tb7 (List.mem_of_getElem? (i := 139) (by decide +kernel))
theorem ml_RX11_240 : Cond.methodLink RX11 240 yX11_begins ∈ lw_tbl := tb7 (List.mem_of_getElem? (i := 108) (by decide +kernel))
theorem ml_RX11_244 : Cond.methodLink RX11 244 yX11_readsDeed ∈ lw_tbl := tb7 (List.mem_of_getElem? (i := 116) (by decide +kernel))
theorem ml_RX11_247 : Cond.methodLink RX11 247 yX11_readsStile ∈ lw_tbl := tb7 (List.mem_of_getElem? (i := 124) (by decide +kernel))
theorem ml_RX11_250 : Cond.methodLink RX11 250 yX11_readsPerson ∈ lw_tbl := tb7 (List.mem_of_getElem? (i := 135) (by decide +kernel))
theorem ml_RX11_256 : Cond.methodLink RX11 256 yX11_expression ∈ lw_tbl := tb7 (List.mem_of_getElem? (i := 143) (by decide +kernel))
theorem ml_RX11_263 : Cond.methodLink RX11 263 yX11_need ∈ lw_tbl := tb7 (List.mem_of_getElem? (i := 189) (by decide +kernel))
theorem ml_RX11_266 : Cond.methodLink RX11 266 yX11_right ∈ lw_tbl := tb7 (List.mem_of_getElem? (i := 71) (by decide +kernel))
theorem ml_RX11_270 : Cond.methodLink RX11 270 yX11_line ∈ lw_tbl := tb7 (List.mem_of_getElem? (i := 93) (by decide +kernel))
theorem ml_RX11_279 : Cond.methodLink RX11 279 yX11_copies ∈ lw_tbl := tb7 (List.mem_of_getElem? (i := 193) (by decide +kernel))
theorem ml_RX11_293 : Cond.methodLink RX11 293 yX11_works ∈ lw_tbl := tb8 (List.mem_of_getElem? (i := 78) (by decide +kernel))
theorem ml_RX11_297 : Cond.methodLink RX11 297 yX11_isWhite ∈ lw_tbl := tb7 (List.mem_of_getElem? (i := 220) (by decide +kernel))
theorem ml_RX11_301 : Cond.methodLink RX11 301 yX11_beside ∈ lw_tbl := tb7 (List.mem_of_getElem? (i := 228) (by decide +kernel))
theorem ml_RX11_304 : Cond.methodLink RX11 304 yX11_standAt ∈ lw_tbl := tb8 (List.mem_of_getElem? (i := 38) (by decide +kernel))
theorem ml_RX11_307 : Cond.methodLink RX11 307 yX11_reckons ∈ lw_tbl := tb8 (List.mem_of_getElem? (i := 74) (by decide +kernel))
theorem ml_RX11_313 : Cond.methodLink RX11 313 yX11_laysFar ∈ lw_tbl := tb7 (List.mem_of_getElem? (i := 224) (by decide +kernel))
theorem ml_RX11_316 : Cond.methodLink RX11 316 yX11_isGoing ∈ lw_tbl := tb8 (List.mem_of_getElem? (i := 70) (by decide +kernel))
theorem ml_RX11_320 : Cond.methodLink RX11 320 yX11_stepFrom ∈ lw_tbl := tb8 (List.mem_of_getElem? (i := 81) (by decide +kernel))
theorem ml_RX11_329 : Cond.methodLink RX11 329 yX11_walks ∈ lw_tbl := tb8 (List.mem_of_getElem? (i := 66) (by decide +kernel))
theorem ml_RX11_332 : Cond.methodLink RX11 332 yX11_isThere ∈ lw_tbl := tb7 (List.mem_of_getElem? (i := 216) (by decide +kernel))
theorem ml_RX11_335 : Cond.methodLink RX11 335 yX11_fadesBy ∈ lw_tbl := tb8 (List.mem_of_getElem? (i := 85) (by decide +kernel))
theorem ml_RX11_338 : Cond.methodLink RX11 338 yX11_bounded ∈ lw_tbl := tb8 (List.mem_of_getElem? (i := 89) (by decide +kernel))
theorem ml_RX11_341 : Cond.methodLink RX11 341 yX11_dayGoes ∈ lw_tbl := tb8 (List.mem_of_getElem? (i := 62) (by decide +kernel))
theorem ml_RX11_344 : Cond.methodLink RX11 344 yX11_within ∈ lw_tbl := tb7 (List.mem_of_getElem? (i := 209) (by decide +kernel))
theorem ml_RX11_347 : Cond.methodLink RX11 347 yX11_parts ∈ lw_tbl := tb7 (List.mem_of_getElem? (i := 212) (by decide +kernel))
theorem ml_RX11_350 : Cond.methodLink RX11 350 yX11_stiles ∈ lw_tbl := tb7 (List.mem_of_getElem? (i := 232) (by decide +kernel))
theorem ml_RX11_353 : Cond.methodLink RX11 353 yX11_inked ∈ lw_tbl := tb7 (List.mem_of_getElem? (i := 236) (by decide +kernel))
theorem ml_RX11_356 : Cond.methodLink RX11 356 yX11_sentOnes ∈ lw_tbl := tb8 (List.mem_of_getElem? (i := 0) (by decide +kernel))
theorem ml_RX11_359 : Cond.methodLink RX11 359 yX11_metAll ∈ lw_tbl := tb8 (List.mem_of_getElem? (i := 4) (by decide +kernel))
theorem ml_RX11_362 : Cond.methodLink RX11 362 yX11_isDeed ∈ lw_tbl := tb8 (List.mem_of_getElem? (i := 12) (by decide +kernel))
theorem ml_RX11_365 : Cond.methodLink RX11 365 yX11_isWhat ∈ lw_tbl := tb8 (List.mem_of_getElem? (i := 16) (by decide +kernel))
theorem ml_RX11_368 : Cond.methodLink RX11 368 yX11_isPerson ∈ lw_tbl := tb8 (List.mem_of_getElem? (i := 24) (by decide +kernel))
theorem ml_RX11_371 : Cond.methodLink RX11 371 yX11_toldAs ∈ lw_tbl := tb8 (List.mem_of_getElem? (i := 28) (by decide +kernel))
theorem ml_RX11_374 : Cond.methodLink RX11 374 yX11_howFar ∈ lw_tbl := tb8 (List.mem_of_getElem? (i := 31) (by decide +kernel))
theorem ml_RX11_377 : Cond.methodLink RX11 377 yX11_orNone ∈ lw_tbl := tb8 (List.mem_of_getElem? (i := 35) (by decide +kernel))
theorem ml_RX11_380 : Cond.methodLink RX11 380 yX11_placeOf ∈ lw_tbl := tb8 (List.mem_of_getElem? (i := 46) (by decide +kernel))
theorem ml_RX11_383 : Cond.methodLink RX11 383 yX11_refuses ∈ lw_tbl := tb8 (List.mem_of_getElem? (i := 54) (by decide +kernel))
theorem ml_RX11_386 : Cond.methodLink RX11 386 yX11_keeps ∈ lw_tbl := tb8 (List.mem_of_getElem? (i := 58) (by decide +kernel))
theorem ml_RX11_389 : Cond.methodLink RX11 389 yX11_tries ∈ lw_tbl := tb8 (List.mem_of_getElem? (i := 120) (by decide +kernel))
theorem ml_RX11_392 : Cond.methodLink RX11 392 yX11_daysGo ∈ lw_tbl := tb8 (List.mem_of_getElem? (i := 124) (by decide +kernel))
theorem ml_RX11_395 : Cond.methodLink RX11 395 yX11_isSoon ∈ lw_tbl := tb8 (List.mem_of_getElem? (i := 112) (by decide +kernel))
theorem ml_RX11_398 : Cond.methodLink RX11 398 yX11_goesTo ∈ lw_tbl := tb8 (List.mem_of_getElem? (i := 116) (by decide +kernel))
theorem ml_RX11_401 : Cond.methodLink RX11 401 yX11_crowdAt ∈ lw_tbl := tb8 (List.mem_of_getElem? (i := 140) (by decide +kernel))
theorem ml_RX11_404 : Cond.methodLink RX11 404 yX11_toClear ∈ lw_tbl := tb8 (List.mem_of_getElem? (i := 160) (by decide +kernel))
theorem ml_RX11_407 : Cond.methodLink RX11 407 yX11_needed ∈ lw_tbl := tb8 (List.mem_of_getElem? (i := 164) (by decide +kernel))
theorem ml_RX11_410 : Cond.methodLink RX11 410 yX11_canTake ∈ lw_tbl := tb8 (List.mem_of_getElem? (i := 196) (by decide +kernel))
theorem ml_RX11_413 : Cond.methodLink RX11 413 yX11_takes ∈ lw_tbl := tb8 (List.mem_of_getElem? (i := 200) (by decide +kernel))
theorem ml_RX11_416 : Cond.methodLink RX11 416 yX11_laysErrands ∈ lw_tbl := tb8 (List.mem_of_getElem? (i := 192) (by decide +kernel))
theorem ml_RX11_419 : Cond.methodLink RX11 419 yX11_isSeen ∈ lw_tbl := tb8 (List.mem_of_getElem? (i := 220) (by decide +kernel))
theorem ml_RX11_422 : Cond.methodLink RX11 422 yX11_isGuess ∈ lw_tbl := tb8 (List.mem_of_getElem? (i := 224) (by decide +kernel))
theorem ml_RX11_425 : Cond.methodLink RX11 425 yX11_gains ∈ lw_tbl := tb9 (List.mem_of_getElem? (i := 0) (by decide +kernel))
theorem ml_RX11_433 : Cond.methodLink RX11 433 yX11_draw ∈ lw_tbl := tb9 (List.mem_of_getElem? (i := 12) (by decide +kernel))
theorem ml_RX11_436 : Cond.methodLink RX11 436 yX11_drawPlace ∈ lw_tbl := tb9 (List.mem_of_getElem? (i := 17) (by decide +kernel))
theorem ml_RX11_439 : Cond.methodLink RX11 439 yX11_happens ∈ lw_tbl := tb9 (List.mem_of_getElem? (i := 8) (by decide +kernel))
theorem ml_RX11_442 : Cond.methodLink RX11 442 yX11_bits ∈ lw_tbl := tb9 (List.mem_of_getElem? (i := 21) (by decide +kernel))
theorem ml_RJ0_335 : Cond.methodLink RJ0 335 yJ0_coder_7d493 ∈ lw_tbl := tb3 (List.mem_of_getElem? (i := 201) (by decide +kernel))
theorem ml_RJ0_492 : Cond.methodLink RJ0 492 yJ0_isLatin1_aae02 ∈ lw_tbl := tb3 (List.mem_of_getElem? (i := 191) (by decide +kernel))
theorem ml_RJ0_495 : Cond.methodLink RJ0 495 yJ1_charAt_3b067 ∈ lw_tbl := tb4 (List.mem_of_getElem? (i := 39) (by decide +kernel))
theorem ml_RJ0_505 : Cond.methodLink RJ0 505 yJ0_length_8abf5 ∈ lw_tbl := tb3 (List.mem_of_getElem? (i := 197) (by decide +kernel))
theorem ml_RJ0_633 : Cond.methodLink RJ0 633 yJ0_indexOf_7cf53 ∈ lw_tbl := tb3 (List.mem_of_getElem? (i := 187) (by decide +kernel))
theorem ml_RJ0_637 : Cond.methodLink RJ0 637 yJ1_indexOf_4cfef ∈ lw_tbl := tb3 (List.mem_of_getElem? (i := 205) (by decide +kernel))
theorem ml_RJ1_9 : Cond.methodLink RJ1 9 yJ0_checkIndex_df160 ∈ lw_tbl := tb4 (List.mem_of_getElem? (i := 42) (by decide +kernel))
theorem ml_RJ1_38 : Cond.methodLink RJ1 38 Lib.Math.min.name ∈ lw_tbl := tb3 (List.mem_of_getElem? (i := 212) (by decide +kernel))
theorem ml_RJ1_88 : Cond.methodLink RJ1 88 yJ1_canEncode_9a6ad ∈ lw_tbl := tb3 (List.mem_of_getElem? (i := 208) (by decide +kernel))
theorem ml_RJ1_92 : Cond.methodLink RJ1 92 Lib.Math.max.name ∈ lw_tbl := tb3 (List.mem_of_getElem? (i := 211) (by decide +kernel))
theorem ml_RJ1_95 : Cond.methodLink RJ1 95 yJ1_indexOfChar_4cfef ∈ lw_tbl := tb3 (List.mem_of_getElem? (i := 213) (by decide +kernel))
theorem kl_RX10_417 : Cond.constantLong RX10 417 (-1) ∈ lw_tbl := tb4 (List.mem_of_getElem? (i := 194) (by decide +kernel))
theorem kl_RX5_36 : Cond.constantLong RX5 36 (-1103823438082) ∈ lw_tbl := tb2 (List.mem_of_getElem? (i := 213) (by decide +kernel))
theorem kl_RX5_38 : Cond.constantLong RX5 38 (-141289400074369) ∈ lw_tbl := tb2 (List.mem_of_getElem? (i := 214) (by decide +kernel))
theorem kl_RX5_48 : Cond.constantLong RX5 48 (-1) ∈ lw_tbl := tb2 (List.mem_of_getElem? (i := 215) (by decide +kernel))
theorem kl_RX9_48 : Cond.constantLong RX9 48 (-1) ∈ lw_tbl := tb3 (List.mem_of_getElem? (i := 39) (by decide +kernel))
theorem kl_RX11_145 : Cond.constantLong RX11 145 (96) ∈ lw_tbl := tb7 (List.mem_of_getElem? (i := 107) (by decide +kernel))
theorem kl_RJ13_314 : Cond.constantLong RJ13 314 (6148914691236517205) ∈ lw_tbl := tb3 (List.mem_of_getElem? (i := 12) (by decide +kernel))
theorem kl_RJ13_316 : Cond.constantLong RJ13 316 (3689348814741910323) ∈ lw_tbl := tb3 (List.mem_of_getElem? (i := 13) (by decide +kernel))
theorem kl_RJ13_318 : Cond.constantLong RJ13 318 (1085102592571150095) ∈ lw_tbl := tb3 (List.mem_of_getElem? (i := 14) (by decide +kernel))
theorem ki_RX3_13 : Cond.constant RX3 13 (1103515245) ∈ lw_tbl := tb6 (List.mem_of_getElem? (i := 57) (by decide +kernel))
theorem ki_RX11_432 : Cond.constant RX11 432 (1103515245) ∈ lw_tbl := tb9 (List.mem_of_getElem? (i := 16) (by decide +kernel))
theorem nw_RX10_23 : ∀ q : vw_C, clss[1]? = some q → Cond.classLink RX10 23 q.1 ∈ lw_tbl ∧ Cond.instantiable q.1 q.2.2 ∈ lw_tbl ∧ Cond.initialized q.1 ∈ lw_tbl := fun q h => by cases h; exact ⟨tb1 (List.mem_of_getElem? (i := 34) (by decide +kernel)), tb1 (List.mem_of_getElem? (i := 35) (by decide +kernel)), tb1 (List.mem_of_getElem? (i := 2) (by decide +kernel))⟩
theorem nw_RX10_33 : ∀ q : vw_C, clss[6]? = some q → Cond.classLink RX10 33 q.1 ∈ lw_tbl ∧ Cond.instantiable q.1 q.2.2 ∈ lw_tbl ∧ Cond.initialized q.1 ∈ lw_tbl := fun q h => by cases h; exact ⟨tb1 (List.mem_of_getElem? (i := 153) (by decide +kernel)), tb1 (List.mem_of_getElem? (i := 154) (by decide +kernel)), tb1 (List.mem_of_getElem? (i := 5) (by decide +kernel))⟩
theorem nw_RX10_42 : ∀ q : vw_C, clss[9]? = some q → Cond.classLink RX10 42 q.1 ∈ lw_tbl ∧ Cond.instantiable q.1 q.2.2 ∈ lw_tbl ∧ Cond.initialized q.1 ∈ lw_tbl := fun q h => by cases h; exact ⟨tb1 (List.mem_of_getElem? (i := 196) (by decide +kernel)), tb1 (List.mem_of_getElem? (i := 59) (by decide +kernel)), tb1 (List.mem_of_getElem? (i := 4) (by decide +kernel))⟩
theorem nw_RX10_49 : ∀ q : vw_C, clss[0]? = some q → Cond.classLink RX10 49 q.1 ∈ lw_tbl ∧ Cond.instantiable q.1 q.2.2 ∈ lw_tbl ∧ Cond.initialized q.1 ∈ lw_tbl := fun q h => by cases h; exact ⟨tb1 (List.mem_of_getElem? (i := 198) (by decide +kernel)), tb1 (List.mem_of_getElem? (i := 199) (by decide +kernel)), tb1 (List.mem_of_getElem? (i := 6) (by decide +kernel))⟩
theorem nw_RX10_56 : ∀ q : vw_C, clss[8]? = some q → Cond.classLink RX10 56 q.1 ∈ lw_tbl ∧ Cond.instantiable q.1 q.2.2 ∈ lw_tbl ∧ Cond.initialized q.1 ∈ lw_tbl := fun q h => by cases h; exact ⟨tb1 (List.mem_of_getElem? (i := 218) (by decide +kernel)), tb1 (List.mem_of_getElem? (i := 219) (by decide +kernel)), tb1 (List.mem_of_getElem? (i := 7) (by decide +kernel))⟩
theorem nw_RX10_76 : ∀ q : vw_C, clss[2]? = some q → Cond.classLink RX10 76 q.1 ∈ lw_tbl ∧ Cond.instantiable q.1 q.2.2 ∈ lw_tbl ∧ Cond.initialized q.1 ∈ lw_tbl := fun q h => by cases h; exact ⟨tb1 (List.mem_of_getElem? (i := 238) (by decide +kernel)), tb1 (List.mem_of_getElem? (i := 239) (by decide +kernel)), tb1 (List.mem_of_getElem? (i := 8) (by decide +kernel))⟩
theorem nw_RX10_83 : ∀ q : vw_C, clss[5]? = some q → Cond.classLink RX10 83 q.1 ∈ lw_tbl ∧ Cond.instantiable q.1 q.2.2 ∈ lw_tbl ∧ Cond.initialized q.1 ∈ lw_tbl := fun q h => by cases h; exact ⟨tb2 (List.mem_of_getElem? (i := 61) (by decide +kernel)), tb2 (List.mem_of_getElem? (i := 7) (by decide +kernel)), tb1 (List.mem_of_getElem? (i := 9) (by decide +kernel))⟩
theorem nw_RX10_90 : ∀ q : vw_C, clss[4]? = some q → Cond.classLink RX10 90 q.1 ∈ lw_tbl ∧ Cond.instantiable q.1 q.2.2 ∈ lw_tbl ∧ Cond.initialized q.1 ∈ lw_tbl := fun q h => by cases h; exact ⟨tb2 (List.mem_of_getElem? (i := 63) (by decide +kernel)), tb2 (List.mem_of_getElem? (i := 64) (by decide +kernel)), tb1 (List.mem_of_getElem? (i := 10) (by decide +kernel))⟩
theorem nw_RX10_97 : ∀ q : vw_C, clss[3]? = some q → Cond.classLink RX10 97 q.1 ∈ lw_tbl ∧ Cond.instantiable q.1 q.2.2 ∈ lw_tbl ∧ Cond.initialized q.1 ∈ lw_tbl := fun q h => by cases h; exact ⟨tb2 (List.mem_of_getElem? (i := 81) (by decide +kernel)), tb2 (List.mem_of_getElem? (i := 82) (by decide +kernel)), tb1 (List.mem_of_getElem? (i := 11) (by decide +kernel))⟩
theorem nw_RX0_18 : ∀ q : vw_C, clss[9]? = some q → Cond.classLink RX0 18 q.1 ∈ lw_tbl ∧ Cond.instantiable q.1 q.2.2 ∈ lw_tbl ∧ Cond.initialized q.1 ∈ lw_tbl := fun q h => by cases h; exact ⟨tb1 (List.mem_of_getElem? (i := 204) (by decide +kernel)), tb1 (List.mem_of_getElem? (i := 59) (by decide +kernel)), tb1 (List.mem_of_getElem? (i := 4) (by decide +kernel))⟩
theorem nw_RX1_29 : ∀ q : vw_C, clss[7]? = some q → Cond.classLink RX1 29 q.1 ∈ lw_tbl ∧ Cond.instantiable q.1 q.2.2 ∈ lw_tbl ∧ Cond.initialized q.1 ∈ lw_tbl := fun q h => by cases h; exact ⟨tb1 (List.mem_of_getElem? (i := 40) (by decide +kernel)), tb1 (List.mem_of_getElem? (i := 41) (by decide +kernel)), tb1 (List.mem_of_getElem? (i := 3) (by decide +kernel))⟩
theorem nw_RX1_39 : ∀ q : vw_C, clss[9]? = some q → Cond.classLink RX1 39 q.1 ∈ lw_tbl ∧ Cond.instantiable q.1 q.2.2 ∈ lw_tbl ∧ Cond.initialized q.1 ∈ lw_tbl := fun q h => by cases h; exact ⟨tb1 (List.mem_of_getElem? (i := 58) (by decide +kernel)), tb1 (List.mem_of_getElem? (i := 59) (by decide +kernel)), tb1 (List.mem_of_getElem? (i := 4) (by decide +kernel))⟩
theorem nw_RX2_9 : ∀ q : vw_C, clss[9]? = some q → Cond.classLink RX2 9 q.1 ∈ lw_tbl ∧ Cond.instantiable q.1 q.2.2 ∈ lw_tbl ∧ Cond.initialized q.1 ∈ lw_tbl := fun q h => by cases h; exact ⟨tb2 (List.mem_of_getElem? (i := 4) (by decide +kernel)), tb1 (List.mem_of_getElem? (i := 59) (by decide +kernel)), tb1 (List.mem_of_getElem? (i := 4) (by decide +kernel))⟩
theorem nw_RX2_18 : ∀ q : vw_C, clss[5]? = some q → Cond.classLink RX2 18 q.1 ∈ lw_tbl ∧ Cond.instantiable q.1 q.2.2 ∈ lw_tbl ∧ Cond.initialized q.1 ∈ lw_tbl := fun q h => by cases h; exact ⟨tb2 (List.mem_of_getElem? (i := 6) (by decide +kernel)), tb2 (List.mem_of_getElem? (i := 7) (by decide +kernel)), tb1 (List.mem_of_getElem? (i := 9) (by decide +kernel))⟩
theorem aw_int : Cond.arrayClass .int ∈ lw_tbl := tb1 (List.mem_of_getElem? (i := 57) (by decide +kernel))
theorem aw_long : Cond.arrayClass .long ∈ lw_tbl := tb2 (List.mem_of_getElem? (i := 30) (by decide +kernel))
theorem aw_boolean : Cond.arrayClass .boolean ∈ lw_tbl := tb7 (List.mem_of_getElem? (i := 54) (by decide +kernel))
theorem an_1 : Cond.classLink RX0 18 RX9 ∈ lw_tbl := tb1 (List.mem_of_getElem? (i := 204) (by decide +kernel))
theorem an_2 : Cond.arrayOver (.object RX9) ∈ lw_tbl := tb1 (List.mem_of_getElem? (i := 205) (by decide +kernel))
theorem an_3 : Cond.arrayOver (.array .int) ∈ lw_tbl := tb2 (List.mem_of_getElem? (i := 70) (by decide +kernel))
theorem mu_RX10_108 : Cond.classLink RX10 108 "[[I" ∈ lw_tbl := tb2 (List.mem_of_getElem? (i := 92) (by decide +kernel))
theorem mu_RX4_15 : Cond.classLink RX4 15 "[[I" ∈ lw_tbl := tb2 (List.mem_of_getElem? (i := 69) (by decide +kernel))
theorem oi_1 : Cond.instanceMethod objectInit ∈ lw_tbl := tb1 (List.mem_of_getElem? (i := 32) (by decide +kernel))
theorem oi_2 : Cond.code objectInit ⟨#[0xb1]⟩ 1 none ∈ lw_tbl := tb1 (List.mem_of_getElem? (i := 33) (rfl))
theorem ac_1 : Cond.native arraycopyName ∈ lw_tbl := tb2 (List.mem_of_getElem? (i := 180) (by decide +kernel))
theorem ac_2 : Cond.static arraycopyName ∈ lw_tbl := tb2 (List.mem_of_getElem? (i := 179) (by decide +kernel))
theorem ac_3 : Cond.initialized "java/lang/System" ∈ lw_tbl := tb1 (List.mem_of_getElem? (i := 23) (by decide +kernel))
theorem sf_1053 : Cond.fieldLink RJ0 1053 "jdk/internal/util/Preconditions" "SIOOBE_FORMATTER" "Ljava/util/function/BiFunction;" ∈ lw_tbl := tb3 (List.mem_of_getElem? (i := 234) (by decide +kernel))
theorem ml_RJ0_1059 : Cond.methodLink RJ0 1059 yJ3_checkIndex_8e157 ∈ lw_tbl := tb4 (List.mem_of_getElem? (i := 45) (by decide +kernel))
theorem ic_m8 : Int32.ofInt (-8) = (-8) := by decide
theorem ic_m1 : Int32.ofInt (-1) = (-1) := by decide
theorem ic_0 : Int32.ofInt 0 = 0 := by decide
theorem ic_1 : Int32.ofInt 1 = 1 := by decide
theorem ic_2 : Int32.ofInt 2 = 2 := by decide
theorem ic_3 : Int32.ofInt 3 = 3 := by decide
theorem ic_4 : Int32.ofInt 4 = 4 := by decide
theorem ic_5 : Int32.ofInt 5 = 5 := by decide
theorem ic_6 : Int32.ofInt 6 = 6 := by decide
theorem ib_m18 : (Int8.ofInt (-18)).toInt32 = (-18) := by decide
theorem ib_m17 : (Int8.ofInt (-17)).toInt32 = (-17) := by decide
theorem ib_m16 : (Int8.ofInt (-16)).toInt32 = (-16) := by decide
theorem ib_m15 : (Int8.ofInt (-15)).toInt32 = (-15) := by decide
theorem ib_m14 : (Int8.ofInt (-14)).toInt32 = (-14) := by decide
theorem ib_m13 : (Int8.ofInt (-13)).toInt32 = (-13) := by decide
theorem ib_m12 : (Int8.ofInt (-12)).toInt32 = (-12) := by decide
theorem ib_m11 : (Int8.ofInt (-11)).toInt32 = (-11) := by decide
theorem ib_m10 : (Int8.ofInt (-10)).toInt32 = (-10) := by decide
theorem ib_m2 : (Int8.ofInt (-2)).toInt32 = (-2) := by decide
theorem ib_6 : (Int8.ofInt 6).toInt32 = 6 := by decide
theorem ib_7 : (Int8.ofInt 7).toInt32 = 7 := by decide
theorem ib_8 : (Int8.ofInt 8).toInt32 = 8 := by decide
theorem ib_9 : (Int8.ofInt 9).toInt32 = 9 := by decide
theorem ib_10 : (Int8.ofInt 10).toInt32 = 10 := by decide
theorem ib_11 : (Int8.ofInt 11).toInt32 = 11 := by decide
theorem ib_12 : (Int8.ofInt 12).toInt32 = 12 := by decide
theorem ib_13 : (Int8.ofInt 13).toInt32 = 13 := by decide
theorem ib_14 : (Int8.ofInt 14).toInt32 = 14 := by decide
theorem ib_15 : (Int8.ofInt 15).toInt32 = 15 := by decide
theorem ib_16 : (Int8.ofInt 16).toInt32 = 16 := by decide
theorem ib_17 : (Int8.ofInt 17).toInt32 = 17 := by decide
theorem ib_20 : (Int8.ofInt 20).toInt32 = 20 := by decide
theorem ib_24 : (Int8.ofInt 24).toInt32 = 24 := by decide
theorem ib_32 : (Int8.ofInt 32).toInt32 = 32 := by decide
theorem ib_36 : (Int8.ofInt 36).toInt32 = 36 := by decide
theorem ib_40 : (Int8.ofInt 40).toInt32 = 40 := by decide
theorem ib_41 : (Int8.ofInt 41).toInt32 = 41 := by decide
theorem ib_42 : (Int8.ofInt 42).toInt32 = 42 := by decide
theorem ib_43 : (Int8.ofInt 43).toInt32 = 43 := by decide
theorem ib_45 : (Int8.ofInt 45).toInt32 = 45 := by decide
theorem ib_47 : (Int8.ofInt 47).toInt32 = 47 := by decide
theorem ib_48 : (Int8.ofInt 48).toInt32 = 48 := by decide
theorem ib_49 : (Int8.ofInt 49).toInt32 = 49 := by decide
theorem ib_55 : (Int8.ofInt 55).toInt32 = 55 := by decide
theorem ib_57 : (Int8.ofInt 57).toInt32 = 57 := by decide
theorem ib_59 : (Int8.ofInt 59).toInt32 = 59 := by decide
theorem ib_60 : (Int8.ofInt 60).toInt32 = 60 := by decide
theorem ib_61 : (Int8.ofInt 61).toInt32 = 61 := by decide
theorem ib_64 : (Int8.ofInt 64).toInt32 = 64 := by decide
theorem ib_67 : (Int8.ofInt 67).toInt32 = 67 := by decide
theorem ib_73 : (Int8.ofInt 73).toInt32 = 73 := by decide
theorem ib_79 : (Int8.ofInt 79).toInt32 = 79 := by decide
theorem ib_80 : (Int8.ofInt 80).toInt32 = 80 := by decide
theorem ib_96 : (Int8.ofInt 96).toInt32 = 96 := by decide
theorem ib_97 : (Int8.ofInt 97).toInt32 = 97 := by decide
theorem ib_99 : (Int8.ofInt 99).toInt32 = 99 := by decide
theorem ib_100 : (Int8.ofInt 100).toInt32 = 100 := by decide
theorem ib_101 : (Int8.ofInt 101).toInt32 = 101 := by decide
theorem ib_102 : (Int8.ofInt 102).toInt32 = 102 := by decide
theorem ib_103 : (Int8.ofInt 103).toInt32 = 103 := by decide
theorem ib_104 : (Int8.ofInt 104).toInt32 = 104 := by decide
theorem ib_105 : (Int8.ofInt 105).toInt32 = 105 := by decide
theorem ib_107 : (Int8.ofInt 107).toInt32 = 107 := by decide
theorem ib_108 : (Int8.ofInt 108).toInt32 = 108 := by decide
theorem ib_109 : (Int8.ofInt 109).toInt32 = 109 := by decide
theorem ib_110 : (Int8.ofInt 110).toInt32 = 110 := by decide
theorem ib_111 : (Int8.ofInt 111).toInt32 = 111 := by decide
theorem ib_112 : (Int8.ofInt 112).toInt32 = 112 := by decide
theorem ib_114 : (Int8.ofInt 114).toInt32 = 114 := by decide
theorem ib_115 : (Int8.ofInt 115).toInt32 = 115 := by decide
theorem ib_116 : (Int8.ofInt 116).toInt32 = 116 := by decide
theorem ib_119 : (Int8.ofInt 119).toInt32 = 119 := by decide
theorem ib_121 : (Int8.ofInt 121).toInt32 = 121 := by decide
theorem ib_122 : (Int8.ofInt 122).toInt32 = 122 := by decide
theorem ib_127 : (Int8.ofInt 127).toInt32 = 127 := by decide
theorem is_128 : (Int16.ofInt 128).toInt32 = 128 := by decide
theorem is_134 : (Int16.ofInt 134).toInt32 = 134 := by decide
theorem is_140 : (Int16.ofInt 140).toInt32 = 140 := by decide
theorem is_146 : (Int16.ofInt 146).toInt32 = 146 := by decide
theorem is_152 : (Int16.ofInt 152).toInt32 = 152 := by decide
theorem is_158 : (Int16.ofInt 158).toInt32 = 158 := by decide
theorem is_255 : (Int16.ofInt 255).toInt32 = 255 := by decide
theorem is_256 : (Int16.ofInt 256).toInt32 = 256 := by decide
theorem is_257 : (Int16.ofInt 257).toInt32 = 257 := by decide
theorem is_258 : (Int16.ofInt 258).toInt32 = 258 := by decide
theorem is_259 : (Int16.ofInt 259).toInt32 = 259 := by decide
theorem is_360 : (Int16.ofInt 360).toInt32 = 360 := by decide
theorem is_448 : (Int16.ofInt 448).toInt32 = 448 := by decide
theorem is_700 : (Int16.ofInt 700).toInt32 = 700 := by decide
theorem is_950 : (Int16.ofInt 950).toInt32 = 950 := by decide
theorem is_1000 : (Int16.ofInt 1000).toInt32 = 1000 := by decide
theorem is_1400 : (Int16.ofInt 1400).toInt32 = 1400 := by decide
theorem is_3160 : (Int16.ofInt 3160).toInt32 = 3160 := by decide
theorem is_9999 : (Int16.ofInt 9999).toInt32 = 9999 := by decide
theorem is_10000 : (Int16.ofInt 10000).toInt32 = 10000 := by decide
theorem is_12345 : (Int16.ofInt 12345).toInt32 = 12345 := by decide
theorem is_32767 : (Int16.ofInt 32767).toInt32 = 32767 := by decide
/-- an array of N arrays of M ints can be made -/
def gM (μ : Mem) (N M : Nat) : Option Unit := if (decide (kd μ.1 = (3, N)) && (List.range N).all (fun j => decide (kd (μ.1 + 1 + j) = (0, M))) && decide (μ.1 + N < NN)) = true then some () else none
theorem gM_ok {μ : Mem} {N M : Nat} {u : Unit} (h : gM μ N M = some u) : kd μ.1 = (3, N) ∧ (∀ j, j < N → kd (μ.1 + 1 + j) = (0, M)) ∧ μ.1 + N < NN := by
  unfold gM at h
  split at h
  · rename_i hc
    simp only [Bool.and_eq_true, decide_eq_true_eq, List.all_eq_true, List.mem_range] at hc
    exact ⟨hc.1.1, hc.1.2, hc.2⟩
  · cases h
theorem PEl {x : Option Value} {ν0 ν : Mem} {B : Prop} {v : Option Value} (h : PE (.inl x) ν0 B (.inl v) ν) : v = x ∧ ν = ν0 ∧ ν0.1 = NN ∧ B := ⟨Sum.inl.inj h.1, h.2.1, h.2.2.1, h.2.2.2⟩
theorem PEr {j i : Nat} {ν0 ν : Mem} {B : Prop} (h : PE (.inr j) ν0 B (.inr i) ν) : i = j ∧ ν = ν0 ∧ ν0.1 = NN ∧ B := ⟨Sum.inr.inj h.1, h.2.1, h.2.2.1, h.2.2.2⟩
theorem PAl {x : Option Value} {ν0 ν : Mem} {v : Option Value} (h : PA (.inl x) ν0 (.inl v) ν) : v = x ∧ ν = ν0 := ⟨Sum.inl.inj h.1, h.2⟩
