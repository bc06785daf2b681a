theorem mo_J0_isLatin1_aae02 : Mok mJ0_isLatin1_aae02 0 := ⟨tb3 (List.mem_of_getElem? (i := 194) (rfl)), tb1 (List.mem_of_getElem? (i := 18) (by decide +kernel)), by decide +kernel, by decide +kernel, by decide +kernel, by decide⟩
theorem mv_J0_isLatin1_aae02 : MokV mJ0_isLatin1_aae02 := ⟨tb3 (List.mem_of_getElem? (i := 192) (by decide +kernel)), tb3 (List.mem_of_getElem? (i := 193) (by decide +kernel))⟩
theorem mo_J1_charAt_3b067 : Mok mJ1_charAt_3b067 2 := ⟨tb4 (List.mem_of_getElem? (i := 41) (rfl)), tb1 (List.mem_of_getElem? (i := 19) (by decide +kernel)), by decide +kernel, by decide +kernel, by decide +kernel, by decide⟩
theorem ms_J1_charAt_3b067 : Cond.static yJ1_charAt_3b067 ∈ lw_tbl := tb4 (List.mem_of_getElem? (i := 40) (by decide +kernel))
theorem mo_J0_charAt_5068e : Mok mJ0_charAt_5068e 1 := ⟨tb4 (List.mem_of_getElem? (i := 38) (rfl)), tb1 (List.mem_of_getElem? (i := 18) (by decide +kernel)), by decide +kernel, by decide +kernel, by decide +kernel, by decide⟩
theorem mv_J0_charAt_5068e : MokV mJ0_charAt_5068e := ⟨tb4 (List.mem_of_getElem? (i := 36) (by decide +kernel)), tb4 (List.mem_of_getElem? (i := 37) (by decide +kernel))⟩
theorem mo_J0_coder_7d493 : Mok mJ0_coder_7d493 0 := ⟨tb3 (List.mem_of_getElem? (i := 204) (rfl)), tb1 (List.mem_of_getElem? (i := 18) (by decide +kernel)), by decide +kernel, by decide +kernel, by decide +kernel, by decide⟩
theorem mv_J0_coder_7d493 : MokV mJ0_coder_7d493 := ⟨tb3 (List.mem_of_getElem? (i := 202) (by decide +kernel)), tb3 (List.mem_of_getElem? (i := 203) (by decide +kernel))⟩
theorem mo_J0_length_8abf5 : Mok mJ0_length_8abf5 0 := ⟨tb3 (List.mem_of_getElem? (i := 200) (rfl)), tb1 (List.mem_of_getElem? (i := 18) (by decide +kernel)), by decide +kernel, by decide +kernel, by decide +kernel, by decide⟩
theorem mv_J0_length_8abf5 : MokV mJ0_length_8abf5 := ⟨tb3 (List.mem_of_getElem? (i := 198) (by decide +kernel)), tb3 (List.mem_of_getElem? (i := 199) (by decide +kernel))⟩
theorem mo_J1_canEncode_9a6ad : Mok mJ1_canEncode_9a6ad 1 := ⟨tb3 (List.mem_of_getElem? (i := 210) (rfl)), tb1 (List.mem_of_getElem? (i := 19) (by decide +kernel)), by decide +kernel, by decide +kernel, by decide +kernel, by decide⟩
theorem ms_J1_canEncode_9a6ad : Cond.static yJ1_canEncode_9a6ad ∈ lw_tbl := tb3 (List.mem_of_getElem? (i := 209) (by decide +kernel))
theorem mo_J1_indexOfChar_4cfef : Mok mJ1_indexOfChar_4cfef 4 := ⟨tb3 (List.mem_of_getElem? (i := 215) (rfl)), tb1 (List.mem_of_getElem? (i := 19) (by decide +kernel)), by decide +kernel, by decide +kernel, by decide +kernel, by decide⟩
theorem ms_J1_indexOfChar_4cfef : Cond.static yJ1_indexOfChar_4cfef ∈ lw_tbl := tb3 (List.mem_of_getElem? (i := 214) (by decide +kernel))
theorem mo_J1_indexOf_4cfef : Mok mJ1_indexOf_4cfef 4 := ⟨tb3 (List.mem_of_getElem? (i := 207) (rfl)), tb1 (List.mem_of_getElem? (i := 19) (by decide +kernel)), by decide +kernel, by decide +kernel, by decide +kernel, by decide⟩
theorem ms_J1_indexOf_4cfef : Cond.static yJ1_indexOf_4cfef ∈ lw_tbl := tb3 (List.mem_of_getElem? (i := 206) (by decide +kernel))
theorem mo_J0_indexOf_7cf53 : Mok mJ0_indexOf_7cf53 2 := ⟨tb3 (List.mem_of_getElem? (i := 190) (rfl)), tb1 (List.mem_of_getElem? (i := 18) (by decide +kernel)), by decide +kernel, by decide +kernel, by decide +kernel, by decide⟩
theorem mv_J0_indexOf_7cf53 : MokV mJ0_indexOf_7cf53 := ⟨tb3 (List.mem_of_getElem? (i := 188) (by decide +kernel)), tb3 (List.mem_of_getElem? (i := 189) (by decide +kernel))⟩
theorem mo_J0_indexOf_0f7a4 : Mok mJ0_indexOf_0f7a4 1 := ⟨tb3 (List.mem_of_getElem? (i := 186) (rfl)), tb1 (List.mem_of_getElem? (i := 18) (by decide +kernel)), by decide +kernel, by decide +kernel, by decide +kernel, by decide⟩
theorem mv_J0_indexOf_0f7a4 : MokV mJ0_indexOf_0f7a4 := ⟨tb3 (List.mem_of_getElem? (i := 184) (by decide +kernel)), tb3 (List.mem_of_getElem? (i := 185) (by decide +kernel))⟩
theorem mo_J13_bitCount_95d88 : Mok mJ13_bitCount_95d88 1 := ⟨tb3 (List.mem_of_getElem? (i := 11) (rfl)), tb1 (List.mem_of_getElem? (i := 25) (by decide +kernel)), by decide +kernel, by decide +kernel, by decide +kernel, by decide⟩
theorem ms_J13_bitCount_95d88 : Cond.static yJ13_bitCount_95d88 ∈ lw_tbl := tb3 (List.mem_of_getElem? (i := 10) (by decide +kernel))
theorem mo_X10_needWhat : Mok mX10_needWhat 2 := ⟨tb4 (List.mem_of_getElem? (i := 160) (rfl)), tb1 (List.mem_of_getElem? (i := 1) (by decide +kernel)), by decide +kernel, by decide +kernel, by decide +kernel, by decide⟩
theorem mv_X10_needWhat : MokV mX10_needWhat := ⟨tb4 (List.mem_of_getElem? (i := 159) (by decide +kernel)), ps2 (n := 20) (List.mem_of_getElem? (i := 14) (by decide +kernel))⟩
theorem mo_X10_needWithin : Mok mX10_needWithin 3 := ⟨tb5 (List.mem_of_getElem? (i := 59) (rfl)), tb1 (List.mem_of_getElem? (i := 1) (by decide +kernel)), by decide +kernel, by decide +kernel, by decide +kernel, by decide⟩
theorem mv_X10_needWithin : MokV mX10_needWithin := ⟨tb5 (List.mem_of_getElem? (i := 58) (by decide +kernel)), ps3 (n := 20) (List.mem_of_getElem? (i := 6) (by decide +kernel))⟩
theorem mo_X10_outside : Mok mX10_outside 1 := ⟨tb5 (List.mem_of_getElem? (i := 0) (rfl)), tb1 (List.mem_of_getElem? (i := 1) (by decide +kernel)), by decide +kernel, by decide +kernel, by decide +kernel, by decide⟩
theorem ms_X10_outside : Cond.static yX10_outside ∈ lw_tbl := tb4 (List.mem_of_getElem? (i := 239) (by decide +kernel))
theorem mo_X9_copyFrom : Mok mX9_copyFrom 1 := ⟨tb2 (List.mem_of_getElem? (i := 177) (rfl)), tb1 (List.mem_of_getElem? (i := 4) (by decide +kernel)), by decide +kernel, by decide +kernel, by decide +kernel, by decide⟩
theorem mv_X9_copyFrom : MokV mX9_copyFrom := ⟨tb2 (List.mem_of_getElem? (i := 175) (by decide +kernel)), tb2 (List.mem_of_getElem? (i := 176) (by decide +kernel))⟩
theorem mo_X2_begin : Mok mX2_begin 2 := ⟨tb2 (List.mem_of_getElem? (i := 188) (rfl)), tb1 (List.mem_of_getElem? (i := 8) (by decide +kernel)), by decide +kernel, by decide +kernel, by decide +kernel, by decide⟩
theorem mv_X2_begin : MokV mX2_begin := ⟨tb2 (List.mem_of_getElem? (i := 186) (by decide +kernel)), tb2 (List.mem_of_getElem? (i := 187) (by decide +kernel))⟩
theorem mo_X7_joined : Mok mX7_joined 3 := ⟨tb3 (List.mem_of_getElem? (i := 1) (rfl)), tb1 (List.mem_of_getElem? (i := 3) (by decide +kernel)), by decide +kernel, by decide +kernel, by decide +kernel, by decide⟩
theorem ms_X7_joined : Cond.static yX7_joined ∈ lw_tbl := tb3 (List.mem_of_getElem? (i := 0) (by decide +kernel))
theorem mo_X7_valueOf : Mok mX7_valueOf 2 := ⟨tb2 (List.mem_of_getElem? (i := 238) (rfl)), tb1 (List.mem_of_getElem? (i := 3) (by decide +kernel)), by decide +kernel, by decide +kernel, by decide +kernel, by decide⟩
theorem ms_X7_valueOf : Cond.static yX7_valueOf ∈ lw_tbl := tb2 (List.mem_of_getElem? (i := 237) (by decide +kernel))
theorem mo_X7_evaluate : Mok mX7_evaluate 1 := ⟨tb2 (List.mem_of_getElem? (i := 235) (rfl)), tb1 (List.mem_of_getElem? (i := 3) (by decide +kernel)), by decide +kernel, by decide +kernel, by decide +kernel, by decide⟩
theorem mv_X7_evaluate : MokV mX7_evaluate := ⟨tb2 (List.mem_of_getElem? (i := 233) (by decide +kernel)), tb2 (List.mem_of_getElem? (i := 234) (by decide +kernel))⟩
theorem mo_X7_isTold : Mok mX7_isTold 0 := ⟨tb2 (List.mem_of_getElem? (i := 223) (rfl)), tb1 (List.mem_of_getElem? (i := 3) (by decide +kernel)), by decide +kernel, by decide +kernel, by decide +kernel, by decide⟩
theorem mv_X7_isTold : MokV mX7_isTold := ⟨tb2 (List.mem_of_getElem? (i := 221) (by decide +kernel)), tb2 (List.mem_of_getElem? (i := 222) (by decide +kernel))⟩
theorem mo_X9_crowd : Mok mX9_crowd 1 := ⟨tb2 (List.mem_of_getElem? (i := 231) (rfl)), tb1 (List.mem_of_getElem? (i := 4) (by decide +kernel)), by decide +kernel, by decide +kernel, by decide +kernel, by decide⟩
theorem mv_X9_crowd : MokV mX9_crowd := ⟨tb2 (List.mem_of_getElem? (i := 229) (by decide +kernel)), tb2 (List.mem_of_getElem? (i := 230) (by decide +kernel))⟩
theorem mo_X2_fadesBy : Mok mX2_fadesBy 1 := ⟨tb3 (List.mem_of_getElem? (i := 29) (rfl)), tb1 (List.mem_of_getElem? (i := 8) (by decide +kernel)), by decide +kernel, by decide +kernel, by decide +kernel, by decide⟩
theorem mv_X2_fadesBy : MokV mX2_fadesBy := ⟨tb3 (List.mem_of_getElem? (i := 28) (by decide +kernel)), ps1 (n := 8) (List.mem_of_getElem? (i := 6) (by decide +kernel))⟩
theorem mo_X10_bit : Mok mX10_bit 1 := ⟨tb2 (List.mem_of_getElem? (i := 208) (rfl)), tb1 (List.mem_of_getElem? (i := 1) (by decide +kernel)), by decide +kernel, by decide +kernel, by decide +kernel, by decide⟩
theorem ms_X10_bit : Cond.static yX10_bit ∈ lw_tbl := tb2 (List.mem_of_getElem? (i := 207) (by decide +kernel))
theorem mo_X9_setInk : Mok mX9_setInk 2 := ⟨tb3 (List.mem_of_getElem? (i := 37) (rfl)), tb1 (List.mem_of_getElem? (i := 4) (by decide +kernel)), by decide +kernel, by decide +kernel, by decide +kernel, by decide⟩
theorem mv_X9_setInk : MokV mX9_setInk := ⟨tb3 (List.mem_of_getElem? (i := 35) (by decide +kernel)), tb3 (List.mem_of_getElem? (i := 36) (by decide +kernel))⟩
theorem mo_X2_fade : Mok mX2_fade 0 := ⟨tb3 (List.mem_of_getElem? (i := 25) (rfl)), tb1 (List.mem_of_getElem? (i := 8) (by decide +kernel)), by decide +kernel, by decide +kernel, by decide +kernel, by decide⟩
theorem mv_X2_fade : MokV mX2_fade := ⟨tb3 (List.mem_of_getElem? (i := 24) (by decide +kernel)), ps1 (n := 8) (List.mem_of_getElem? (i := 5) (by decide +kernel))⟩
theorem mo_X9_others : Mok mX9_others 1 := ⟨tb2 (List.mem_of_getElem? (i := 227) (rfl)), tb1 (List.mem_of_getElem? (i := 4) (by decide +kernel)), by decide +kernel, by decide +kernel, by decide +kernel, by decide⟩
theorem mv_X9_others : MokV mX9_others := ⟨tb2 (List.mem_of_getElem? (i := 225) (by decide +kernel)), tb2 (List.mem_of_getElem? (i := 226) (by decide +kernel))⟩
theorem mo_X2_greet : Mok mX2_greet 0 := ⟨tb3 (List.mem_of_getElem? (i := 18) (rfl)), tb1 (List.mem_of_getElem? (i := 8) (by decide +kernel)), by decide +kernel, by decide +kernel, by decide +kernel, by decide⟩
theorem mv_X2_greet : MokV mX2_greet := ⟨tb3 (List.mem_of_getElem? (i := 17) (by decide +kernel)), ps1 (n := 8) (List.mem_of_getElem? (i := 4) (by decide +kernel))⟩
theorem mo_X2_goesOn : Mok mX2_goesOn 3 := ⟨tb2 (List.mem_of_getElem? (i := 219) (rfl)), tb1 (List.mem_of_getElem? (i := 8) (by decide +kernel)), by decide +kernel, by decide +kernel, by decide +kernel, by decide⟩
theorem mv_X2_goesOn : MokV mX2_goesOn := ⟨tb2 (List.mem_of_getElem? (i := 218) (by decide +kernel)), ps1 (n := 8) (List.mem_of_getElem? (i := 3) (by decide +kernel))⟩
theorem mo_X5_beside : Mok mX5_beside 1 := ⟨tb2 (List.mem_of_getElem? (i := 212) (rfl)), tb1 (List.mem_of_getElem? (i := 9) (by decide +kernel)), by decide +kernel, by decide +kernel, by decide +kernel, by decide⟩
theorem mv_X5_beside : MokV mX5_beside := ⟨tb2 (List.mem_of_getElem? (i := 210) (by decide +kernel)), tb2 (List.mem_of_getElem? (i := 211) (by decide +kernel))⟩
theorem mo_X5_far : Mok mX5_far 2 := ⟨tb2 (List.mem_of_getElem? (i := 205) (rfl)), tb1 (List.mem_of_getElem? (i := 9) (by decide +kernel)), by decide +kernel, by decide +kernel, by decide +kernel, by decide⟩
theorem mv_X5_far : MokV mX5_far := ⟨tb2 (List.mem_of_getElem? (i := 203) (by decide +kernel)), tb2 (List.mem_of_getElem? (i := 204) (by decide +kernel))⟩
theorem mo_X10_lowest : Mok mX10_lowest 1 := ⟨tb3 (List.mem_of_getElem? (i := 8) (rfl)), tb1 (List.mem_of_getElem? (i := 1) (by decide +kernel)), by decide +kernel, by decide +kernel, by decide +kernel, by decide⟩
theorem ms_X10_lowest : Cond.static yX10_lowest ∈ lw_tbl := tb3 (List.mem_of_getElem? (i := 7) (by decide +kernel))
theorem mo_X5_stepOf : Mok mX5_stepOf 2 := ⟨tb3 (List.mem_of_getElem? (i := 5) (rfl)), tb1 (List.mem_of_getElem? (i := 9) (by decide +kernel)), by decide +kernel, by decide +kernel, by decide +kernel, by decide⟩
theorem mv_X5_stepOf : MokV mX5_stepOf := ⟨tb3 (List.mem_of_getElem? (i := 3) (by decide +kernel)), tb3 (List.mem_of_getElem? (i := 4) (by decide +kernel))⟩
theorem mo_X2_walk : Mok mX2_walk 1 := ⟨tb2 (List.mem_of_getElem? (i := 201) (rfl)), tb1 (List.mem_of_getElem? (i := 8) (by decide +kernel)), by decide +kernel, by decide +kernel, by decide +kernel, by decide⟩
theorem mv_X2_walk : MokV mX2_walk := ⟨tb2 (List.mem_of_getElem? (i := 200) (by decide +kernel)), ps1 (n := 8) (List.mem_of_getElem? (i := 2) (by decide +kernel))⟩
theorem mo_X5_lay : Mok mX5_lay 2 := ⟨tb2 (List.mem_of_getElem? (i := 197) (rfl)), tb1 (List.mem_of_getElem? (i := 9) (by decide +kernel)), by decide +kernel, by decide +kernel, by decide +kernel, by decide⟩
theorem mv_X5_lay : MokV mX5_lay := ⟨tb2 (List.mem_of_getElem? (i := 195) (by decide +kernel)), tb2 (List.mem_of_getElem? (i := 196) (by decide +kernel))⟩
theorem mo_X2_pass : Mok mX2_pass 1 := ⟨tb2 (List.mem_of_getElem? (i := 193) (rfl)), tb1 (List.mem_of_getElem? (i := 8) (by decide +kernel)), by decide +kernel, by decide +kernel, by decide +kernel, by decide⟩
theorem mv_X2_pass : MokV mX2_pass := ⟨tb2 (List.mem_of_getElem? (i := 191) (by decide +kernel)), tb2 (List.mem_of_getElem? (i := 192) (by decide +kernel))⟩
theorem mo_X10_runAhead : Mok mX10_runAhead 1 := ⟨tb2 (List.mem_of_getElem? (i := 184) (rfl)), tb1 (List.mem_of_getElem? (i := 1) (by decide +kernel)), by decide +kernel, by decide +kernel, by decide +kernel, by decide⟩
theorem mv_X10_runAhead : MokV mX10_runAhead := ⟨tb2 (List.mem_of_getElem? (i := 183) (by decide +kernel)), ps1 (n := 20) (List.mem_of_getElem? (i := 1) (by decide +kernel))⟩
theorem mo_X9_thickestPlace : Mok mX9_thickestPlace 0 := ⟨tb6 (List.mem_of_getElem? (i := 76) (rfl)), tb1 (List.mem_of_getElem? (i := 4) (by decide +kernel)), by decide +kernel, by decide +kernel, by decide +kernel, by decide⟩
theorem mv_X9_thickestPlace : MokV mX9_thickestPlace := ⟨tb6 (List.mem_of_getElem? (i := 74) (by decide +kernel)), tb6 (List.mem_of_getElem? (i := 75) (by decide +kernel))⟩
theorem mo_X10_ahead : Mok mX10_ahead 2 := ⟨tb6 (List.mem_of_getElem? (i := 72) (rfl)), tb1 (List.mem_of_getElem? (i := 1) (by decide +kernel)), by decide +kernel, by decide +kernel, by decide +kernel, by decide⟩
theorem mv_X10_ahead : MokV mX10_ahead := ⟨tb6 (List.mem_of_getElem? (i := 70) (by decide +kernel)), tb6 (List.mem_of_getElem? (i := 71) (by decide +kernel))⟩
theorem mo_L_ahead : Mok mL_ahead 4 := ⟨tb6 (List.mem_of_getElem? (i := 68) (rfl)), tb1 (List.mem_of_getElem? (i := 0) (by decide +kernel)), by decide +kernel, by decide +kernel, by decide +kernel, by decide⟩
theorem ms_L_ahead : Cond.static yL_ahead ∈ lw_tbl := tb6 (List.mem_of_getElem? (i := 67) (by decide +kernel))
theorem mo_X10_isLit : Mok mX10_isLit 2 := ⟨tb6 (List.mem_of_getElem? (i := 17) (rfl)), tb1 (List.mem_of_getElem? (i := 1) (by decide +kernel)), by decide +kernel, by decide +kernel, by decide +kernel, by decide⟩
theorem ms_X10_isLit : Cond.static yX10_isLit ∈ lw_tbl := tb6 (List.mem_of_getElem? (i := 16) (by decide +kernel))
theorem mo_X10_hasComeBy : Mok mX10_hasComeBy 3 := ⟨tb6 (List.mem_of_getElem? (i := 21) (rfl)), tb1 (List.mem_of_getElem? (i := 1) (by decide +kernel)), by decide +kernel, by decide +kernel, by decide +kernel, by decide⟩
theorem mv_X10_hasComeBy : MokV mX10_hasComeBy := ⟨tb6 (List.mem_of_getElem? (i := 20) (by decide +kernel)), ps4 (n := 20) (List.mem_of_getElem? (i := 1) (by decide +kernel))⟩
theorem mo_X10_needPerson : Mok mX10_needPerson 1 := ⟨tb4 (List.mem_of_getElem? (i := 236) (rfl)), tb1 (List.mem_of_getElem? (i := 1) (by decide +kernel)), by decide +kernel, by decide +kernel, by decide +kernel, by decide⟩
theorem mv_X10_needPerson : MokV mX10_needPerson := ⟨tb4 (List.mem_of_getElem? (i := 235) (by decide +kernel)), ps3 (n := 20) (List.mem_of_getElem? (i := 4) (by decide +kernel))⟩
theorem mo_X10_weightOf : Mok mX10_weightOf 3 := ⟨tb6 (List.mem_of_getElem? (i := 14) (rfl)), tb1 (List.mem_of_getElem? (i := 1) (by decide +kernel)), by decide +kernel, by decide +kernel, by decide +kernel, by decide⟩
theorem ms_X10_weightOf : Cond.static yX10_weightOf ∈ lw_tbl := tb6 (List.mem_of_getElem? (i := 13) (by decide +kernel))
theorem mo_X10_candles : Mok mX10_candles 3 := ⟨tb6 (List.mem_of_getElem? (i := 11) (rfl)), tb1 (List.mem_of_getElem? (i := 1) (by decide +kernel)), by decide +kernel, by decide +kernel, by decide +kernel, by decide⟩
theorem mv_X10_candles : MokV mX10_candles := ⟨tb6 (List.mem_of_getElem? (i := 9) (by decide +kernel)), tb6 (List.mem_of_getElem? (i := 10) (by decide +kernel))⟩
theorem mo_L_candles : Mok mL_candles 5 := ⟨tb6 (List.mem_of_getElem? (i := 7) (rfl)), tb1 (List.mem_of_getElem? (i := 0) (by decide +kernel)), by decide +kernel, by decide +kernel, by decide +kernel, by decide⟩
theorem ms_L_candles : Cond.static yL_candles ∈ lw_tbl := tb6 (List.mem_of_getElem? (i := 6) (by decide +kernel))
theorem mo_X0_drop : Mok mX0_drop 0 := ⟨tb4 (List.mem_of_getElem? (i := 148) (rfl)), tb1 (List.mem_of_getElem? (i := 6) (by decide +kernel)), by decide +kernel, by decide +kernel, by decide +kernel, by decide⟩
theorem mv_X0_drop : MokV mX0_drop := ⟨tb4 (List.mem_of_getElem? (i := 146) (by decide +kernel)), tb4 (List.mem_of_getElem? (i := 147) (by decide +kernel))⟩
theorem mo_X9_empty : Mok mX9_empty 0 := ⟨tb1 (List.mem_of_getElem? (i := 67) (rfl)), tb1 (List.mem_of_getElem? (i := 4) (by decide +kernel)), by decide +kernel, by decide +kernel, by decide +kernel, by decide⟩
theorem mv_X9_empty : MokV mX9_empty := ⟨tb1 (List.mem_of_getElem? (i := 65) (by decide +kernel)), tb1 (List.mem_of_getElem? (i := 66) (by decide +kernel))⟩
theorem mo_X1_empty : Mok mX1_empty 0 := ⟨tb3 (List.mem_of_getElem? (i := 156) (rfl)), tb1 (List.mem_of_getElem? (i := 2) (by decide +kernel)), by decide +kernel, by decide +kernel, by decide +kernel, by decide⟩
theorem mv_X1_empty : MokV mX1_empty := ⟨tb3 (List.mem_of_getElem? (i := 154) (by decide +kernel)), tb3 (List.mem_of_getElem? (i := 155) (by decide +kernel))⟩
theorem mo_X6_isBlank : Mok mX6_isBlank 1 := ⟨tb3 (List.mem_of_getElem? (i := 164) (rfl)), tb1 (List.mem_of_getElem? (i := 5) (by decide +kernel)), by decide +kernel, by decide +kernel, by decide +kernel, by decide⟩
theorem ms_X6_isBlank : Cond.static yX6_isBlank ∈ lw_tbl := tb3 (List.mem_of_getElem? (i := 163) (by decide +kernel))
theorem mo_X6_isDigit : Mok mX6_isDigit 1 := ⟨tb3 (List.mem_of_getElem? (i := 174) (rfl)), tb1 (List.mem_of_getElem? (i := 5) (by decide +kernel)), by decide +kernel, by decide +kernel, by decide +kernel, by decide⟩
theorem ms_X6_isDigit : Cond.static yX6_isDigit ∈ lw_tbl := tb3 (List.mem_of_getElem? (i := 173) (by decide +kernel))
theorem mo_X6_isLetter : Mok mX6_isLetter 1 := ⟨tb3 (List.mem_of_getElem? (i := 167) (rfl)), tb1 (List.mem_of_getElem? (i := 5) (by decide +kernel)), by decide +kernel, by decide +kernel, by decide +kernel, by decide⟩
theorem ms_X6_isLetter : Cond.static yX6_isLetter ∈ lw_tbl := tb3 (List.mem_of_getElem? (i := 166) (by decide +kernel))
theorem mo_X6_isSign : Mok mX6_isSign 1 := ⟨tb3 (List.mem_of_getElem? (i := 181) (rfl)), tb1 (List.mem_of_getElem? (i := 5) (by decide +kernel)), by decide +kernel, by decide +kernel, by decide +kernel, by decide⟩
theorem ms_X6_isSign : Cond.static yX6_isSign ∈ lw_tbl := tb3 (List.mem_of_getElem? (i := 180) (by decide +kernel))
theorem mo_X6_readNumber : Mok mX6_readNumber 0 := ⟨tb3 (List.mem_of_getElem? (i := 178) (rfl)), tb1 (List.mem_of_getElem? (i := 5) (by decide +kernel)), by decide +kernel, by decide +kernel, by decide +kernel, by decide⟩
theorem mv_X6_readNumber : MokV mX6_readNumber := ⟨tb3 (List.mem_of_getElem? (i := 177) (by decide +kernel)), ps1 (n := 11) (List.mem_of_getElem? (i := 10) (by decide +kernel))⟩
theorem mo_X6_readWord : Mok mX6_readWord 0 := ⟨tb3 (List.mem_of_getElem? (i := 171) (rfl)), tb1 (List.mem_of_getElem? (i := 5) (by decide +kernel)), by decide +kernel, by decide +kernel, by decide +kernel, by decide⟩
theorem mv_X6_readWord : MokV mX6_readWord := ⟨tb3 (List.mem_of_getElem? (i := 170) (by decide +kernel)), ps1 (n := 11) (List.mem_of_getElem? (i := 9) (by decide +kernel))⟩
theorem mo_X6_advance : Mok mX6_advance 0 := ⟨tb3 (List.mem_of_getElem? (i := 161) (rfl)), tb1 (List.mem_of_getElem? (i := 5) (by decide +kernel)), by decide +kernel, by decide +kernel, by decide +kernel, by decide⟩
theorem mv_X6_advance : MokV mX6_advance := ⟨tb3 (List.mem_of_getElem? (i := 160) (by decide +kernel)), ps1 (n := 11) (List.mem_of_getElem? (i := 8) (by decide +kernel))⟩
theorem mo_X6_refuse : Mok mX6_refuse 1 := ⟨tb4 (List.mem_of_getElem? (i := 66) (rfl)), tb1 (List.mem_of_getElem? (i := 5) (by decide +kernel)), by decide +kernel, by decide +kernel, by decide +kernel, by decide⟩
theorem mv_X6_refuse : MokV mX6_refuse := ⟨tb4 (List.mem_of_getElem? (i := 65) (by decide +kernel)), ps1 (n := 11) (List.mem_of_getElem? (i := 15) (by decide +kernel))⟩
theorem mo_X6_pass : Mok mX6_pass 1 := ⟨tb4 (List.mem_of_getElem? (i := 140) (rfl)), tb1 (List.mem_of_getElem? (i := 5) (by decide +kernel)), by decide +kernel, by decide +kernel, by decide +kernel, by decide⟩
theorem mv_X6_pass : MokV mX6_pass := ⟨tb4 (List.mem_of_getElem? (i := 139) (by decide +kernel)), ps2 (n := 11) (List.mem_of_getElem? (i := 13) (by decide +kernel))⟩
theorem mo_X1_addPlace : Mok mX1_addPlace 2 := ⟨tb4 (List.mem_of_getElem? (i := 74) (rfl)), tb1 (List.mem_of_getElem? (i := 2) (by decide +kernel)), by decide +kernel, by decide +kernel, by decide +kernel, by decide⟩
theorem mv_X1_addPlace : MokV mX1_addPlace := ⟨tb4 (List.mem_of_getElem? (i := 72) (by decide +kernel)), tb4 (List.mem_of_getElem? (i := 73) (by decide +kernel))⟩
theorem mo_X6_numberBelow : Mok mX6_numberBelow 2 := ⟨tb4 (List.mem_of_getElem? (i := 70) (rfl)), tb1 (List.mem_of_getElem? (i := 5) (by decide +kernel)), by decide +kernel, by decide +kernel, by decide +kernel, by decide⟩
theorem mv_X6_numberBelow : MokV mX6_numberBelow := ⟨tb4 (List.mem_of_getElem? (i := 69) (by decide +kernel)), ps2 (n := 11) (List.mem_of_getElem? (i := 0) (by decide +kernel))⟩
theorem mo_X6_readDeed : Mok mX6_readDeed 0 := ⟨tb4 (List.mem_of_getElem? (i := 62) (rfl)), tb1 (List.mem_of_getElem? (i := 5) (by decide +kernel)), by decide +kernel, by decide +kernel, by decide +kernel, by decide⟩
theorem mv_X6_readDeed : MokV mX6_readDeed := ⟨tb4 (List.mem_of_getElem? (i := 61) (by decide +kernel)), ps1 (n := 11) (List.mem_of_getElem? (i := 14) (by decide +kernel))⟩
theorem mo_X6_isAt : Mok mX6_isAt 3 := ⟨tb4 (List.mem_of_getElem? (i := 58) (rfl)), tb1 (List.mem_of_getElem? (i := 5) (by decide +kernel)), by decide +kernel, by decide +kernel, by decide +kernel, by decide⟩
theorem mv_X6_isAt : MokV mX6_isAt := ⟨tb4 (List.mem_of_getElem? (i := 57) (by decide +kernel)), ps1 (n := 11) (List.mem_of_getElem? (i := 13) (by decide +kernel))⟩
theorem mo_X6_isWord : Mok mX6_isWord 1 := ⟨tb4 (List.mem_of_getElem? (i := 94) (rfl)), tb1 (List.mem_of_getElem? (i := 5) (by decide +kernel)), by decide +kernel, by decide +kernel, by decide +kernel, by decide⟩
theorem mv_X6_isWord : MokV mX6_isWord := ⟨tb4 (List.mem_of_getElem? (i := 93) (by decide +kernel)), ps2 (n := 11) (List.mem_of_getElem? (i := 4) (by decide +kernel))⟩
theorem mo_X6_readPlace : Mok mX6_readPlace 0 := ⟨tb4 (List.mem_of_getElem? (i := 89) (rfl)), tb1 (List.mem_of_getElem? (i := 5) (by decide +kernel)), by decide +kernel, by decide +kernel, by decide +kernel, by decide⟩
theorem mv_X6_readPlace : MokV mX6_readPlace := ⟨tb4 (List.mem_of_getElem? (i := 88) (by decide +kernel)), ps2 (n := 11) (List.mem_of_getElem? (i := 3) (by decide +kernel))⟩
theorem mo_X6_readPerson : Mok mX6_readPerson 0 := ⟨tb4 (List.mem_of_getElem? (i := 85) (rfl)), tb1 (List.mem_of_getElem? (i := 5) (by decide +kernel)), by decide +kernel, by decide +kernel, by decide +kernel, by decide⟩
theorem mv_X6_readPerson : MokV mX6_readPerson := ⟨tb4 (List.mem_of_getElem? (i := 84) (by decide +kernel)), ps2 (n := 11) (List.mem_of_getElem? (i := 2) (by decide +kernel))⟩
theorem mo_X7_add : Mok mX7_add 1 := ⟨tb4 (List.mem_of_getElem? (i := 136) (rfl)), tb1 (List.mem_of_getElem? (i := 3) (by decide +kernel)), by decide +kernel, by decide +kernel, by decide +kernel, by decide⟩
theorem mv_X7_add : MokV mX7_add := ⟨tb4 (List.mem_of_getElem? (i := 134) (by decide +kernel)), tb4 (List.mem_of_getElem? (i := 135) (by decide +kernel))⟩
theorem mo_X7_addValue : Mok mX7_addValue 1 := ⟨tb4 (List.mem_of_getElem? (i := 132) (rfl)), tb1 (List.mem_of_getElem? (i := 3) (by decide +kernel)), by decide +kernel, by decide +kernel, by decide +kernel, by decide⟩
theorem mv_X7_addValue : MokV mX7_addValue := ⟨tb4 (List.mem_of_getElem? (i := 130) (by decide +kernel)), tb4 (List.mem_of_getElem? (i := 131) (by decide +kernel))⟩
theorem mo_X6_readValue : Mok mX6_readValue 1 := ⟨tb4 (List.mem_of_getElem? (i := 128) (rfl)), tb1 (List.mem_of_getElem? (i := 5) (by decide +kernel)), by decide +kernel, by decide +kernel, by decide +kernel, by decide⟩
theorem mv_X6_readValue : MokV mX6_readValue := ⟨tb4 (List.mem_of_getElem? (i := 127) (by decide +kernel)), ps2 (n := 11) (List.mem_of_getElem? (i := 12) (by decide +kernel))⟩
theorem mo_X6_wordOf : Mok mX6_wordOf 1 := ⟨tb4 (List.mem_of_getElem? (i := 33) (rfl)), tb1 (List.mem_of_getElem? (i := 5) (by decide +kernel)), by decide +kernel, by decide +kernel, by decide +kernel, by decide⟩
theorem mv_X6_wordOf : MokV mX6_wordOf := ⟨tb4 (List.mem_of_getElem? (i := 32) (by decide +kernel)), ps1 (n := 11) (List.mem_of_getElem? (i := 12) (by decide +kernel))⟩
theorem mo_X6_readPart : Mok mX6_readPart 1 := ⟨tb4 (List.mem_of_getElem? (i := 124) (rfl)), tb1 (List.mem_of_getElem? (i := 5) (by decide +kernel)), by decide +kernel, by decide +kernel, by decide +kernel, by decide⟩
theorem mv_X6_readPart : MokV mX6_readPart := ⟨tb4 (List.mem_of_getElem? (i := 123) (by decide +kernel)), ps2 (n := 11) (List.mem_of_getElem? (i := 11) (by decide +kernel))⟩
theorem mo_X6_readProduct : Mok mX6_readProduct 1 := ⟨tb4 (List.mem_of_getElem? (i := 120) (rfl)), tb1 (List.mem_of_getElem? (i := 5) (by decide +kernel)), by decide +kernel, by decide +kernel, by decide +kernel, by decide⟩
theorem mv_X6_readProduct : MokV mX6_readProduct := ⟨tb4 (List.mem_of_getElem? (i := 119) (by decide +kernel)), ps2 (n := 11) (List.mem_of_getElem? (i := 10) (by decide +kernel))⟩
theorem mo_X6_readSum : Mok mX6_readSum 1 := ⟨tb4 (List.mem_of_getElem? (i := 116) (rfl)), tb1 (List.mem_of_getElem? (i := 5) (by decide +kernel)), by decide +kernel, by decide +kernel, by decide +kernel, by decide⟩
theorem mv_X6_readSum : MokV mX6_readSum := ⟨tb4 (List.mem_of_getElem? (i := 115) (by decide +kernel)), ps2 (n := 11) (List.mem_of_getElem? (i := 9) (by decide +kernel))⟩
theorem mo_X6_readNot : Mok mX6_readNot 1 := ⟨tb4 (List.mem_of_getElem? (i := 111) (rfl)), tb1 (List.mem_of_getElem? (i := 5) (by decide +kernel)), by decide +kernel, by decide +kernel, by decide +kernel, by decide⟩
theorem mv_X6_readNot : MokV mX6_readNot := ⟨tb4 (List.mem_of_getElem? (i := 110) (by decide +kernel)), ps2 (n := 11) (List.mem_of_getElem? (i := 8) (by decide +kernel))⟩
theorem mo_X6_readAnd : Mok mX6_readAnd 1 := ⟨tb4 (List.mem_of_getElem? (i := 107) (rfl)), tb1 (List.mem_of_getElem? (i := 5) (by decide +kernel)), by decide +kernel, by decide +kernel, by decide +kernel, by decide⟩
theorem mv_X6_readAnd : MokV mX6_readAnd := ⟨tb4 (List.mem_of_getElem? (i := 106) (by decide +kernel)), ps2 (n := 11) (List.mem_of_getElem? (i := 7) (by decide +kernel))⟩
theorem mo_X6_readExpr : Mok mX6_readExpr 1 := ⟨tb4 (List.mem_of_getElem? (i := 103) (rfl)), tb1 (List.mem_of_getElem? (i := 5) (by decide +kernel)), by decide +kernel, by decide +kernel, by decide +kernel, by decide⟩
theorem mv_X6_readExpr : MokV mX6_readExpr := ⟨tb4 (List.mem_of_getElem? (i := 102) (by decide +kernel)), ps2 (n := 11) (List.mem_of_getElem? (i := 6) (by decide +kernel))⟩
theorem mo_X6_readRule : Mok mX6_readRule 2 := ⟨tb4 (List.mem_of_getElem? (i := 98) (rfl)), tb1 (List.mem_of_getElem? (i := 5) (by decide +kernel)), by decide +kernel, by decide +kernel, by decide +kernel, by decide⟩
theorem mv_X6_readRule : MokV mX6_readRule := ⟨tb4 (List.mem_of_getElem? (i := 97) (by decide +kernel)), ps2 (n := 11) (List.mem_of_getElem? (i := 5) (by decide +kernel))⟩
theorem mo_X6_readStile : Mok mX6_readStile 0 := ⟨tb4 (List.mem_of_getElem? (i := 80) (rfl)), tb1 (List.mem_of_getElem? (i := 5) (by decide +kernel)), by decide +kernel, by decide +kernel, by decide +kernel, by decide⟩
theorem mv_X6_readStile : MokV mX6_readStile := ⟨tb4 (List.mem_of_getElem? (i := 79) (by decide +kernel)), ps2 (n := 11) (List.mem_of_getElem? (i := 1) (by decide +kernel))⟩
theorem mo_X6_readLine : Mok mX6_readLine 0 := ⟨tb4 (List.mem_of_getElem? (i := 28) (rfl)), tb1 (List.mem_of_getElem? (i := 5) (by decide +kernel)), by decide +kernel, by decide +kernel, by decide +kernel, by decide⟩
theorem mv_X6_readLine : MokV mX6_readLine := ⟨tb4 (List.mem_of_getElem? (i := 27) (by decide +kernel)), ps1 (n := 11) (List.mem_of_getElem? (i := 11) (by decide +kernel))⟩
theorem mo_X6_read : Mok mX6_read 3 := ⟨tb3 (List.mem_of_getElem? (i := 151) (rfl)), tb1 (List.mem_of_getElem? (i := 5) (by decide +kernel)), by decide +kernel, by decide +kernel, by decide +kernel, by decide⟩
theorem mv_X6_read : MokV mX6_read := ⟨tb3 (List.mem_of_getElem? (i := 149) (by decide +kernel)), tb3 (List.mem_of_getElem? (i := 150) (by decide +kernel))⟩
theorem mo_X8_drop : Mok mX8_drop 0 := ⟨tb3 (List.mem_of_getElem? (i := 56) (rfl)), tb1 (List.mem_of_getElem? (i := 7) (by decide +kernel)), by decide +kernel, by decide +kernel, by decide +kernel, by decide⟩
theorem mv_X8_drop : MokV mX8_drop := ⟨tb3 (List.mem_of_getElem? (i := 54) (by decide +kernel)), tb3 (List.mem_of_getElem? (i := 55) (by decide +kernel))⟩
theorem mo_X10_cellar : Mok mX10_cellar 1 := ⟨tb3 (List.mem_of_getElem? (i := 81) (rfl)), tb1 (List.mem_of_getElem? (i := 1) (by decide +kernel)), by decide +kernel, by decide +kernel, by decide +kernel, by decide⟩
theorem mv_X10_cellar : MokV mX10_cellar := ⟨tb3 (List.mem_of_getElem? (i := 79) (by decide +kernel)), tb3 (List.mem_of_getElem? (i := 80) (by decide +kernel))⟩
theorem mo_L_cellar : Mok mL_cellar 3 := ⟨tb3 (List.mem_of_getElem? (i := 76) (rfl)), tb1 (List.mem_of_getElem? (i := 0) (by decide +kernel)), by decide +kernel, by decide +kernel, by decide +kernel, by decide⟩
theorem ms_L_cellar : Cond.static yL_cellar ∈ lw_tbl := tb3 (List.mem_of_getElem? (i := 75) (by decide +kernel))
theorem mo_X10_inside : Mok mX10_inside 1 := ⟨tb5 (List.mem_of_getElem? (i := 13) (rfl)), tb1 (List.mem_of_getElem? (i := 1) (by decide +kernel)), by decide +kernel, by decide +kernel, by decide +kernel, by decide⟩
theorem mv_X10_inside : MokV mX10_inside := ⟨tb5 (List.mem_of_getElem? (i := 12) (by decide +kernel)), ps3 (n := 20) (List.mem_of_getElem? (i := 5) (by decide +kernel))⟩
theorem mo_X10_clear : Mok mX10_clear 1 := ⟨tb5 (List.mem_of_getElem? (i := 93) (rfl)), tb1 (List.mem_of_getElem? (i := 1) (by decide +kernel)), by decide +kernel, by decide +kernel, by decide +kernel, by decide⟩
theorem mv_X10_clear : MokV mX10_clear := ⟨tb5 (List.mem_of_getElem? (i := 91) (by decide +kernel)), tb5 (List.mem_of_getElem? (i := 92) (by decide +kernel))⟩
theorem mo_L_clear : Mok mL_clear 3 := ⟨tb5 (List.mem_of_getElem? (i := 89) (rfl)), tb1 (List.mem_of_getElem? (i := 0) (by decide +kernel)), by decide +kernel, by decide +kernel, by decide +kernel, by decide⟩
theorem ms_L_clear : Cond.static yL_clear ∈ lw_tbl := tb5 (List.mem_of_getElem? (i := 88) (by decide +kernel))
theorem mo_X10_comes : Mok mX10_comes 1 := ⟨tb5 (List.mem_of_getElem? (i := 67) (rfl)), tb1 (List.mem_of_getElem? (i := 1) (by decide +kernel)), by decide +kernel, by decide +kernel, by decide +kernel, by decide⟩
theorem mv_X10_comes : MokV mX10_comes := ⟨tb5 (List.mem_of_getElem? (i := 65) (by decide +kernel)), tb5 (List.mem_of_getElem? (i := 66) (by decide +kernel))⟩
theorem mo_L_comes : Mok mL_comes 3 := ⟨tb5 (List.mem_of_getElem? (i := 63) (rfl)), tb1 (List.mem_of_getElem? (i := 0) (by decide +kernel)), by decide +kernel, by decide +kernel, by decide +kernel, by decide⟩
theorem ms_L_comes : Cond.static yL_comes ∈ lw_tbl := tb5 (List.mem_of_getElem? (i := 62) (by decide +kernel))
theorem mo_X10_here : Mok mX10_here 0 := ⟨tb4 (List.mem_of_getElem? (i := 180) (rfl)), tb1 (List.mem_of_getElem? (i := 1) (by decide +kernel)), by decide +kernel, by decide +kernel, by decide +kernel, by decide⟩
theorem mv_X10_here : MokV mX10_here := ⟨tb4 (List.mem_of_getElem? (i := 179) (by decide +kernel)), ps2 (n := 20) (List.mem_of_getElem? (i := 15) (by decide +kernel))⟩
theorem mo_X10_inked : Mok mX10_inked 1 := ⟨tb4 (List.mem_of_getElem? (i := 193) (rfl)), tb1 (List.mem_of_getElem? (i := 1) (by decide +kernel)), by decide +kernel, by decide +kernel, by decide +kernel, by decide⟩
theorem mv_X10_inked : MokV mX10_inked := ⟨tb4 (List.mem_of_getElem? (i := 192) (by decide +kernel)), ps3 (n := 20) (List.mem_of_getElem? (i := 0) (by decide +kernel))⟩
theorem mo_X5_flood : Mok mX5_flood 2 := ⟨tb4 (List.mem_of_getElem? (i := 189) (rfl)), tb1 (List.mem_of_getElem? (i := 9) (by decide +kernel)), by decide +kernel, by decide +kernel, by decide +kernel, by decide⟩
theorem mv_X5_flood : MokV mX5_flood := ⟨tb4 (List.mem_of_getElem? (i := 187) (by decide +kernel)), tb4 (List.mem_of_getElem? (i := 188) (by decide +kernel))⟩
theorem mo_X5_parts : Mok mX5_parts 0 := ⟨tb4 (List.mem_of_getElem? (i := 185) (rfl)), tb1 (List.mem_of_getElem? (i := 9) (by decide +kernel)), by decide +kernel, by decide +kernel, by decide +kernel, by decide⟩
theorem mv_X5_parts : MokV mX5_parts := ⟨tb4 (List.mem_of_getElem? (i := 183) (by decide +kernel)), tb4 (List.mem_of_getElem? (i := 184) (by decide +kernel))⟩
theorem mo_X9_metByAll : Mok mX9_metByAll 0 := ⟨tb4 (List.mem_of_getElem? (i := 202) (rfl)), tb1 (List.mem_of_getElem? (i := 4) (by decide +kernel)), by decide +kernel, by decide +kernel, by decide +kernel, by decide⟩
theorem mv_X9_metByAll : MokV mX9_metByAll := ⟨tb4 (List.mem_of_getElem? (i := 200) (by decide +kernel)), tb4 (List.mem_of_getElem? (i := 201) (by decide +kernel))⟩
theorem mo_X9_sentBits : Mok mX9_sentBits 0 := ⟨tb4 (List.mem_of_getElem? (i := 198) (rfl)), tb1 (List.mem_of_getElem? (i := 4) (by decide +kernel)), by decide +kernel, by decide +kernel, by decide +kernel, by decide⟩
theorem mv_X9_sentBits : MokV mX9_sentBits := ⟨tb4 (List.mem_of_getElem? (i := 196) (by decide +kernel)), tb4 (List.mem_of_getElem? (i := 197) (by decide +kernel))⟩
theorem mo_X10_count : Mok mX10_count 1 := ⟨tb4 (List.mem_of_getElem? (i := 156) (rfl)), tb1 (List.mem_of_getElem? (i := 1) (by decide +kernel)), by decide +kernel, by decide +kernel, by decide +kernel, by decide⟩
theorem mv_X10_count : MokV mX10_count := ⟨tb4 (List.mem_of_getElem? (i := 154) (by decide +kernel)), tb4 (List.mem_of_getElem? (i := 155) (by decide +kernel))⟩
theorem mo_L_count : Mok mL_count 3 := ⟨tb4 (List.mem_of_getElem? (i := 151) (rfl)), tb1 (List.mem_of_getElem? (i := 0) (by decide +kernel)), by decide +kernel, by decide +kernel, by decide +kernel, by decide⟩
theorem ms_L_count : Cond.static yL_count ∈ lw_tbl := tb4 (List.mem_of_getElem? (i := 150) (by decide +kernel))
theorem mo_X10_bitsOfDeed : Mok mX10_bitsOfDeed 2 := ⟨tb4 (List.mem_of_getElem? (i := 217) (rfl)), tb1 (List.mem_of_getElem? (i := 1) (by decide +kernel)), by decide +kernel, by decide +kernel, by decide +kernel, by decide⟩
theorem ms_X10_bitsOfDeed : Cond.static yX10_bitsOfDeed ∈ lw_tbl := tb4 (List.mem_of_getElem? (i := 216) (by decide +kernel))
theorem mo_X10_inkOfDeed : Mok mX10_inkOfDeed 1 := ⟨tb4 (List.mem_of_getElem? (i := 221) (rfl)), tb1 (List.mem_of_getElem? (i := 1) (by decide +kernel)), by decide +kernel, by decide +kernel, by decide +kernel, by decide⟩
theorem mv_X10_inkOfDeed : MokV mX10_inkOfDeed := ⟨tb4 (List.mem_of_getElem? (i := 220) (by decide +kernel)), ps3 (n := 20) (List.mem_of_getElem? (i := 2) (by decide +kernel))⟩
theorem mo_X10_needDeed : Mok mX10_needDeed 1 := ⟨tb4 (List.mem_of_getElem? (i := 213) (rfl)), tb1 (List.mem_of_getElem? (i := 1) (by decide +kernel)), by decide +kernel, by decide +kernel, by decide +kernel, by decide⟩
theorem mv_X10_needDeed : MokV mX10_needDeed := ⟨tb4 (List.mem_of_getElem? (i := 212) (by decide +kernel)), ps3 (n := 20) (List.mem_of_getElem? (i := 1) (by decide +kernel))⟩
theorem mo_X10_peopleOfDeed : Mok mX10_peopleOfDeed 1 := ⟨tb4 (List.mem_of_getElem? (i := 225) (rfl)), tb1 (List.mem_of_getElem? (i := 1) (by decide +kernel)), by decide +kernel, by decide +kernel, by decide +kernel, by decide⟩
theorem mv_X10_peopleOfDeed : MokV mX10_peopleOfDeed := ⟨tb4 (List.mem_of_getElem? (i := 224) (by decide +kernel)), ps3 (n := 20) (List.mem_of_getElem? (i := 3) (by decide +kernel))⟩
theorem mo_X10_deed : Mok mX10_deed 2 := ⟨tb4 (List.mem_of_getElem? (i := 209) (rfl)), tb1 (List.mem_of_getElem? (i := 1) (by decide +kernel)), by decide +kernel, by decide +kernel, by decide +kernel, by decide⟩
theorem mv_X10_deed : MokV mX10_deed := ⟨tb4 (List.mem_of_getElem? (i := 207) (by decide +kernel)), tb4 (List.mem_of_getElem? (i := 208) (by decide +kernel))⟩
theorem mo_L_deed : Mok mL_deed 4 := ⟨tb4 (List.mem_of_getElem? (i := 205) (rfl)), tb1 (List.mem_of_getElem? (i := 0) (by decide +kernel)), by decide +kernel, by decide +kernel, by decide +kernel, by decide⟩
theorem ms_L_deed : Cond.static yL_deed ∈ lw_tbl := tb4 (List.mem_of_getElem? (i := 204) (by decide +kernel))
theorem mo_X4_isFree : Mok mX4_isFree 3 := ⟨tb5 (List.mem_of_getElem? (i := 165) (rfl)), tb1 (List.mem_of_getElem? (i := 10) (by decide +kernel)), by decide +kernel, by decide +kernel, by decide +kernel, by decide⟩
theorem mv_X4_isFree : MokV mX4_isFree := ⟨tb5 (List.mem_of_getElem? (i := 164) (by decide +kernel)), ps3 (n := 3) (List.mem_of_getElem? (i := 10) (by decide +kernel))⟩
theorem mo_X4_worthOf : Mok mX4_worthOf 3 := ⟨tb5 (List.mem_of_getElem? (i := 169) (rfl)), tb1 (List.mem_of_getElem? (i := 10) (by decide +kernel)), by decide +kernel, by decide +kernel, by decide +kernel, by decide⟩
theorem mv_X4_worthOf : MokV mX4_worthOf := ⟨tb5 (List.mem_of_getElem? (i := 168) (by decide +kernel)), ps3 (n := 3) (List.mem_of_getElem? (i := 11) (by decide +kernel))⟩
theorem mo_X4_firstChoice : Mok mX4_firstChoice 2 := ⟨tb5 (List.mem_of_getElem? (i := 194) (rfl)), tb1 (List.mem_of_getElem? (i := 10) (by decide +kernel)), by decide +kernel, by decide +kernel, by decide +kernel, by decide⟩
theorem mv_X4_firstChoice : MokV mX4_firstChoice := ⟨tb5 (List.mem_of_getElem? (i := 193) (by decide +kernel)), ps3 (n := 3) (List.mem_of_getElem? (i := 12) (by decide +kernel))⟩
theorem mo_X4_takenBy : Mok mX4_takenBy 1 := ⟨tb5 (List.mem_of_getElem? (i := 190) (rfl)), tb1 (List.mem_of_getElem? (i := 10) (by decide +kernel)), by decide +kernel, by decide +kernel, by decide +kernel, by decide⟩
theorem mv_X4_takenBy : MokV mX4_takenBy := ⟨tb5 (List.mem_of_getElem? (i := 188) (by decide +kernel)), tb5 (List.mem_of_getElem? (i := 189) (by decide +kernel))⟩
theorem mo_X4_bestOf : Mok mX4_bestOf 2 := ⟨tb5 (List.mem_of_getElem? (i := 161) (rfl)), tb1 (List.mem_of_getElem? (i := 10) (by decide +kernel)), by decide +kernel, by decide +kernel, by decide +kernel, by decide⟩
theorem mv_X4_bestOf : MokV mX4_bestOf := ⟨tb5 (List.mem_of_getElem? (i := 160) (by decide +kernel)), ps3 (n := 3) (List.mem_of_getElem? (i := 9) (by decide +kernel))⟩
theorem mo_X4_weigh : Mok mX4_weigh 3 := ⟨tb5 (List.mem_of_getElem? (i := 155) (rfl)), tb1 (List.mem_of_getElem? (i := 10) (by decide +kernel)), by decide +kernel, by decide +kernel, by decide +kernel, by decide⟩
theorem mv_X4_weigh : MokV mX4_weigh := ⟨tb5 (List.mem_of_getElem? (i := 153) (by decide +kernel)), tb5 (List.mem_of_getElem? (i := 154) (by decide +kernel))⟩
theorem mo_X10_errand : Mok mX10_errand 1 := ⟨tb5 (List.mem_of_getElem? (i := 186) (rfl)), tb1 (List.mem_of_getElem? (i := 1) (by decide +kernel)), by decide +kernel, by decide +kernel, by decide +kernel, by decide⟩
theorem mv_X10_errand : MokV mX10_errand := ⟨tb5 (List.mem_of_getElem? (i := 184) (by decide +kernel)), tb5 (List.mem_of_getElem? (i := 185) (by decide +kernel))⟩
theorem mo_L_errand : Mok mL_errand 3 := ⟨tb5 (List.mem_of_getElem? (i := 182) (rfl)), tb1 (List.mem_of_getElem? (i := 0) (by decide +kernel)), by decide +kernel, by decide +kernel, by decide +kernel, by decide⟩
theorem ms_L_errand : Cond.static yL_errand ∈ lw_tbl := tb5 (List.mem_of_getElem? (i := 181) (by decide +kernel))
theorem mo_X4_many : Mok mX4_many 0 := ⟨tb5 (List.mem_of_getElem? (i := 174) (rfl)), tb1 (List.mem_of_getElem? (i := 10) (by decide +kernel)), by decide +kernel, by decide +kernel, by decide +kernel, by decide⟩
theorem mv_X4_many : MokV mX4_many := ⟨tb5 (List.mem_of_getElem? (i := 172) (by decide +kernel)), tb5 (List.mem_of_getElem? (i := 173) (by decide +kernel))⟩
theorem mo_X4_farInAll : Mok mX4_farInAll 0 := ⟨tb5 (List.mem_of_getElem? (i := 178) (rfl)), tb1 (List.mem_of_getElem? (i := 10) (by decide +kernel)), by decide +kernel, by decide +kernel, by decide +kernel, by decide⟩
theorem mv_X4_farInAll : MokV mX4_farInAll := ⟨tb5 (List.mem_of_getElem? (i := 176) (by decide +kernel)), tb5 (List.mem_of_getElem? (i := 177) (by decide +kernel))⟩
theorem mo_X10_errands : Mok mX10_errands 1 := ⟨tb5 (List.mem_of_getElem? (i := 151) (rfl)), tb1 (List.mem_of_getElem? (i := 1) (by decide +kernel)), by decide +kernel, by decide +kernel, by decide +kernel, by decide⟩
theorem mv_X10_errands : MokV mX10_errands := ⟨tb5 (List.mem_of_getElem? (i := 149) (by decide +kernel)), tb5 (List.mem_of_getElem? (i := 150) (by decide +kernel))⟩
theorem mo_L_errands : Mok mL_errands 3 := ⟨tb5 (List.mem_of_getElem? (i := 147) (rfl)), tb1 (List.mem_of_getElem? (i := 0) (by decide +kernel)), by decide +kernel, by decide +kernel, by decide +kernel, by decide⟩
theorem ms_L_errands : Cond.static yL_errands ∈ lw_tbl := tb5 (List.mem_of_getElem? (i := 146) (by decide +kernel))
theorem mo_X5_spread : Mok mX5_spread 1 := ⟨tb5 (List.mem_of_getElem? (i := 128) (rfl)), tb1 (List.mem_of_getElem? (i := 9) (by decide +kernel)), by decide +kernel, by decide +kernel, by decide +kernel, by decide⟩
theorem mv_X5_spread : MokV mX5_spread := ⟨tb5 (List.mem_of_getElem? (i := 126) (by decide +kernel)), tb5 (List.mem_of_getElem? (i := 127) (by decide +kernel))⟩
theorem mo_X10_farthest : Mok mX10_farthest 2 := ⟨tb5 (List.mem_of_getElem? (i := 124) (rfl)), tb1 (List.mem_of_getElem? (i := 1) (by decide +kernel)), by decide +kernel, by decide +kernel, by decide +kernel, by decide⟩
theorem mv_X10_farthest : MokV mX10_farthest := ⟨tb5 (List.mem_of_getElem? (i := 122) (by decide +kernel)), tb5 (List.mem_of_getElem? (i := 123) (by decide +kernel))⟩
theorem mo_L_farthest : Mok mL_farthest 4 := ⟨tb5 (List.mem_of_getElem? (i := 120) (rfl)), tb1 (List.mem_of_getElem? (i := 0) (by decide +kernel)), by decide +kernel, by decide +kernel, by decide +kernel, by decide⟩
theorem ms_L_farthest : Cond.static yL_farthest ∈ lw_tbl := tb5 (List.mem_of_getElem? (i := 119) (by decide +kernel))
theorem mo_X10_gainOf : Mok mX10_gainOf 1 := ⟨tb6 (List.mem_of_getElem? (i := 37) (rfl)), tb1 (List.mem_of_getElem? (i := 1) (by decide +kernel)), by decide +kernel, by decide +kernel, by decide +kernel, by decide⟩
theorem mv_X10_gainOf : MokV mX10_gainOf := ⟨tb6 (List.mem_of_getElem? (i := 36) (by decide +kernel)), ps4 (n := 20) (List.mem_of_getElem? (i := 3) (by decide +kernel))⟩
theorem mo_X10_play : Mok mX10_play 3 := ⟨tb6 (List.mem_of_getElem? (i := 33) (rfl)), tb1 (List.mem_of_getElem? (i := 1) (by decide +kernel)), by decide +kernel, by decide +kernel, by decide +kernel, by decide⟩
theorem mv_X10_play : MokV mX10_play := ⟨tb6 (List.mem_of_getElem? (i := 32) (by decide +kernel)), ps4 (n := 20) (List.mem_of_getElem? (i := 2) (by decide +kernel))⟩
theorem mo_X10_rests : Mok mX10_rests 1 := ⟨tb6 (List.mem_of_getElem? (i := 41) (rfl)), tb1 (List.mem_of_getElem? (i := 1) (by decide +kernel)), by decide +kernel, by decide +kernel, by decide +kernel, by decide⟩
theorem mv_X10_rests : MokV mX10_rests := ⟨tb6 (List.mem_of_getElem? (i := 40) (by decide +kernel)), ps4 (n := 20) (List.mem_of_getElem? (i := 4) (by decide +kernel))⟩
theorem mo_X10_game : Mok mX10_game 3 := ⟨tb6 (List.mem_of_getElem? (i := 28) (rfl)), tb1 (List.mem_of_getElem? (i := 1) (by decide +kernel)), by decide +kernel, by decide +kernel, by decide +kernel, by decide⟩
theorem mv_X10_game : MokV mX10_game := ⟨tb6 (List.mem_of_getElem? (i := 26) (by decide +kernel)), tb6 (List.mem_of_getElem? (i := 27) (by decide +kernel))⟩
theorem mo_L_game : Mok mL_game 5 := ⟨tb6 (List.mem_of_getElem? (i := 24) (rfl)), tb1 (List.mem_of_getElem? (i := 0) (by decide +kernel)), by decide +kernel, by decide +kernel, by decide +kernel, by decide⟩
theorem ms_L_game : Cond.static yL_game ∈ lw_tbl := tb6 (List.mem_of_getElem? (i := 23) (by decide +kernel))
theorem mo_X10_comers : Mok mX10_comers 1 := ⟨tb5 (List.mem_of_getElem? (i := 140) (rfl)), tb1 (List.mem_of_getElem? (i := 1) (by decide +kernel)), by decide +kernel, by decide +kernel, by decide +kernel, by decide⟩
theorem mv_X10_comers : MokV mX10_comers := ⟨tb5 (List.mem_of_getElem? (i := 139) (by decide +kernel)), ps3 (n := 20) (List.mem_of_getElem? (i := 7) (by decide +kernel))⟩
theorem mo_X10_farForAll : Mok mX10_farForAll 1 := ⟨tb5 (List.mem_of_getElem? (i := 144) (rfl)), tb1 (List.mem_of_getElem? (i := 1) (by decide +kernel)), by decide +kernel, by decide +kernel, by decide +kernel, by decide⟩
theorem mv_X10_farForAll : MokV mX10_farForAll := ⟨tb5 (List.mem_of_getElem? (i := 143) (by decide +kernel)), ps3 (n := 20) (List.mem_of_getElem? (i := 8) (by decide +kernel))⟩
theorem mo_X1_has : Mok mX1_has 1 := ⟨tb5 (List.mem_of_getElem? (i := 34) (rfl)), tb1 (List.mem_of_getElem? (i := 2) (by decide +kernel)), by decide +kernel, by decide +kernel, by decide +kernel, by decide⟩
theorem mv_X1_has : MokV mX1_has := ⟨tb5 (List.mem_of_getElem? (i := 32) (by decide +kernel)), tb5 (List.mem_of_getElem? (i := 33) (by decide +kernel))⟩
theorem mo_X10_gather : Mok mX10_gather 1 := ⟨tb5 (List.mem_of_getElem? (i := 136) (rfl)), tb1 (List.mem_of_getElem? (i := 1) (by decide +kernel)), by decide +kernel, by decide +kernel, by decide +kernel, by decide⟩
theorem mv_X10_gather : MokV mX10_gather := ⟨tb5 (List.mem_of_getElem? (i := 134) (by decide +kernel)), tb5 (List.mem_of_getElem? (i := 135) (by decide +kernel))⟩
theorem mo_L_gather : Mok mL_gather 3 := ⟨tb5 (List.mem_of_getElem? (i := 132) (rfl)), tb1 (List.mem_of_getElem? (i := 0) (by decide +kernel)), by decide +kernel, by decide +kernel, by decide +kernel, by decide⟩
theorem ms_L_gather : Cond.static yL_gather ∈ lw_tbl := tb5 (List.mem_of_getElem? (i := 131) (by decide +kernel))
theorem mo_X10_gone : Mok mX10_gone 2 := ⟨tb6 (List.mem_of_getElem? (i := 106) (rfl)), tb1 (List.mem_of_getElem? (i := 1) (by decide +kernel)), by decide +kernel, by decide +kernel, by decide +kernel, by decide⟩
theorem mv_X10_gone : MokV mX10_gone := ⟨tb6 (List.mem_of_getElem? (i := 104) (by decide +kernel)), tb6 (List.mem_of_getElem? (i := 105) (by decide +kernel))⟩
theorem mo_L_gone : Mok mL_gone 4 := ⟨tb6 (List.mem_of_getElem? (i := 102) (rfl)), tb1 (List.mem_of_getElem? (i := 0) (by decide +kernel)), by decide +kernel, by decide +kernel, by decide +kernel, by decide⟩
theorem ms_L_gone : Cond.static yL_gone ∈ lw_tbl := tb6 (List.mem_of_getElem? (i := 101) (by decide +kernel))
theorem mo_X10_ink : Mok mX10_ink 1 := ⟨tb5 (List.mem_of_getElem? (i := 9) (rfl)), tb1 (List.mem_of_getElem? (i := 1) (by decide +kernel)), by decide +kernel, by decide +kernel, by decide +kernel, by decide⟩
theorem mv_X10_ink : MokV mX10_ink := ⟨tb5 (List.mem_of_getElem? (i := 7) (by decide +kernel)), tb5 (List.mem_of_getElem? (i := 8) (by decide +kernel))⟩
theorem mo_L_ink : Mok mL_ink 3 := ⟨tb5 (List.mem_of_getElem? (i := 5) (rfl)), tb1 (List.mem_of_getElem? (i := 0) (by decide +kernel)), by decide +kernel, by decide +kernel, by decide +kernel, by decide⟩
theorem ms_L_ink : Cond.static yL_ink ∈ lw_tbl := tb5 (List.mem_of_getElem? (i := 4) (by decide +kernel))
theorem mo_X9_crowdedPlace : Mok mX9_crowdedPlace 0 := ⟨tb5 (List.mem_of_getElem? (i := 85) (rfl)), tb1 (List.mem_of_getElem? (i := 4) (by decide +kernel)), by decide +kernel, by decide +kernel, by decide +kernel, by decide⟩
theorem mv_X9_crowdedPlace : MokV mX9_crowdedPlace := ⟨tb5 (List.mem_of_getElem? (i := 83) (by decide +kernel)), tb5 (List.mem_of_getElem? (i := 84) (by decide +kernel))⟩
theorem mo_X10_later : Mok mX10_later 2 := ⟨tb5 (List.mem_of_getElem? (i := 81) (rfl)), tb1 (List.mem_of_getElem? (i := 1) (by decide +kernel)), by decide +kernel, by decide +kernel, by decide +kernel, by decide⟩
theorem mv_X10_later : MokV mX10_later := ⟨tb5 (List.mem_of_getElem? (i := 79) (by decide +kernel)), tb5 (List.mem_of_getElem? (i := 80) (by decide +kernel))⟩
theorem mo_L_later : Mok mL_later 4 := ⟨tb5 (List.mem_of_getElem? (i := 77) (rfl)), tb1 (List.mem_of_getElem? (i := 0) (by decide +kernel)), by decide +kernel, by decide +kernel, by decide +kernel, by decide⟩
theorem ms_L_later : Cond.static yL_later ∈ lw_tbl := tb5 (List.mem_of_getElem? (i := 76) (by decide +kernel))
theorem mo_X0_keep : Mok mX0_keep 1 := ⟨tb2 (List.mem_of_getElem? (i := 173) (rfl)), tb1 (List.mem_of_getElem? (i := 6) (by decide +kernel)), by decide +kernel, by decide +kernel, by decide +kernel, by decide⟩
theorem mv_X0_keep : MokV mX0_keep := ⟨tb2 (List.mem_of_getElem? (i := 171) (by decide +kernel)), tb2 (List.mem_of_getElem? (i := 172) (by decide +kernel))⟩
theorem mo_X10_let : Mok mX10_let 2 := ⟨tb5 (List.mem_of_getElem? (i := 48) (rfl)), tb1 (List.mem_of_getElem? (i := 1) (by decide +kernel)), by decide +kernel, by decide +kernel, by decide +kernel, by decide⟩
theorem mv_X10_let : MokV mX10_let := ⟨tb5 (List.mem_of_getElem? (i := 46) (by decide +kernel)), tb5 (List.mem_of_getElem? (i := 47) (by decide +kernel))⟩
theorem mo_L_let : Mok mL_let 4 := ⟨tb5 (List.mem_of_getElem? (i := 44) (rfl)), tb1 (List.mem_of_getElem? (i := 0) (by decide +kernel)), by decide +kernel, by decide +kernel, by decide +kernel, by decide⟩
theorem ms_L_let : Cond.static yL_let ∈ lw_tbl := tb5 (List.mem_of_getElem? (i := 43) (by decide +kernel))
theorem mo_X10_beginWith : Mok mX10_beginWith 2 := ⟨tb5 (List.mem_of_getElem? (i := 220) (rfl)), tb1 (List.mem_of_getElem? (i := 1) (by decide +kernel)), by decide +kernel, by decide +kernel, by decide +kernel, by decide⟩
theorem mv_X10_beginWith : MokV mX10_beginWith := ⟨tb5 (List.mem_of_getElem? (i := 219) (by decide +kernel)), ps3 (n := 20) (List.mem_of_getElem? (i := 14) (by decide +kernel))⟩
theorem mo_X10_addPlacesWith : Mok mX10_addPlacesWith 2 := ⟨tb6 (List.mem_of_getElem? (i := 0) (rfl)), tb1 (List.mem_of_getElem? (i := 1) (by decide +kernel)), by decide +kernel, by decide +kernel, by decide +kernel, by decide⟩
theorem mv_X10_addPlacesWith : MokV mX10_addPlacesWith := ⟨tb5 (List.mem_of_getElem? (i := 239) (by decide +kernel)), ps3 (n := 20) (List.mem_of_getElem? (i := 15) (by decide +kernel))⟩
theorem mo_X8_agreesOn : Mok mX8_agreesOn 2 := ⟨tb5 (List.mem_of_getElem? (i := 229) (rfl)), tb1 (List.mem_of_getElem? (i := 7) (by decide +kernel)), by decide +kernel, by decide +kernel, by decide +kernel, by decide⟩
theorem mv_X8_agreesOn : MokV mX8_agreesOn := ⟨tb5 (List.mem_of_getElem? (i := 227) (by decide +kernel)), tb5 (List.mem_of_getElem? (i := 228) (by decide +kernel))⟩
theorem mo_X8_lastDay : Mok mX8_lastDay 0 := ⟨tb5 (List.mem_of_getElem? (i := 224) (rfl)), tb1 (List.mem_of_getElem? (i := 7) (by decide +kernel)), by decide +kernel, by decide +kernel, by decide +kernel, by decide⟩
theorem mv_X8_lastDay : MokV mX8_lastDay := ⟨tb5 (List.mem_of_getElem? (i := 222) (by decide +kernel)), tb5 (List.mem_of_getElem? (i := 223) (by decide +kernel))⟩
theorem mo_X10_isSeenWith : Mok mX10_isSeenWith 2 := ⟨tb5 (List.mem_of_getElem? (i := 216) (rfl)), tb1 (List.mem_of_getElem? (i := 1) (by decide +kernel)), by decide +kernel, by decide +kernel, by decide +kernel, by decide⟩
theorem mv_X10_isSeenWith : MokV mX10_isSeenWith := ⟨tb5 (List.mem_of_getElem? (i := 215) (by decide +kernel)), ps3 (n := 20) (List.mem_of_getElem? (i := 13) (by decide +kernel))⟩
theorem mo_X10_mostLookedFor : Mok mX10_mostLookedFor 1 := ⟨tb6 (List.mem_of_getElem? (i := 4) (rfl)), tb1 (List.mem_of_getElem? (i := 1) (by decide +kernel)), by decide +kernel, by decide +kernel, by decide +kernel, by decide⟩
theorem mv_X10_mostLookedFor : MokV mX10_mostLookedFor := ⟨tb6 (List.mem_of_getElem? (i := 3) (by decide +kernel)), ps4 (n := 20) (List.mem_of_getElem? (i := 0) (by decide +kernel))⟩
theorem mo_X10_look : Mok mX10_look 1 := ⟨tb5 (List.mem_of_getElem? (i := 236) (rfl)), tb1 (List.mem_of_getElem? (i := 1) (by decide +kernel)), by decide +kernel, by decide +kernel, by decide +kernel, by decide⟩
theorem mv_X10_look : MokV mX10_look := ⟨tb5 (List.mem_of_getElem? (i := 234) (by decide +kernel)), tb5 (List.mem_of_getElem? (i := 235) (by decide +kernel))⟩
theorem mo_L_look : Mok mL_look 3 := ⟨tb5 (List.mem_of_getElem? (i := 232) (rfl)), tb1 (List.mem_of_getElem? (i := 0) (by decide +kernel)), by decide +kernel, by decide +kernel, by decide +kernel, by decide⟩
theorem ms_L_look : Cond.static yL_look ∈ lw_tbl := tb5 (List.mem_of_getElem? (i := 231) (by decide +kernel))
theorem mo_X10_meet : Mok mX10_meet 2 := ⟨tb5 (List.mem_of_getElem? (i := 74) (rfl)), tb1 (List.mem_of_getElem? (i := 1) (by decide +kernel)), by decide +kernel, by decide +kernel, by decide +kernel, by decide⟩
theorem mv_X10_meet : MokV mX10_meet := ⟨tb5 (List.mem_of_getElem? (i := 72) (by decide +kernel)), tb5 (List.mem_of_getElem? (i := 73) (by decide +kernel))⟩
theorem mo_L_meet : Mok mL_meet 4 := ⟨tb5 (List.mem_of_getElem? (i := 70) (rfl)), tb1 (List.mem_of_getElem? (i := 0) (by decide +kernel)), by decide +kernel, by decide +kernel, by decide +kernel, by decide⟩
theorem ms_L_meet : Cond.static yL_meet ∈ lw_tbl := tb5 (List.mem_of_getElem? (i := 69) (by decide +kernel))
theorem mo_X10_near : Mok mX10_near 1 := ⟨tb6 (List.mem_of_getElem? (i := 99) (rfl)), tb1 (List.mem_of_getElem? (i := 1) (by decide +kernel)), by decide +kernel, by decide +kernel, by decide +kernel, by decide⟩
theorem mv_X10_near : MokV mX10_near := ⟨tb6 (List.mem_of_getElem? (i := 97) (by decide +kernel)), tb6 (List.mem_of_getElem? (i := 98) (by decide +kernel))⟩
theorem mo_L_near : Mok mL_near 3 := ⟨tb6 (List.mem_of_getElem? (i := 95) (rfl)), tb1 (List.mem_of_getElem? (i := 0) (by decide +kernel)), by decide +kernel, by decide +kernel, by decide +kernel, by decide⟩
theorem ms_L_near : Cond.static yL_near ∈ lw_tbl := tb6 (List.mem_of_getElem? (i := 94) (by decide +kernel))
theorem mo_X10_person : Mok mX10_person 2 := ⟨tb4 (List.mem_of_getElem? (i := 232) (rfl)), tb1 (List.mem_of_getElem? (i := 1) (by decide +kernel)), by decide +kernel, by decide +kernel, by decide +kernel, by decide⟩
theorem mv_X10_person : MokV mX10_person := ⟨tb4 (List.mem_of_getElem? (i := 230) (by decide +kernel)), tb4 (List.mem_of_getElem? (i := 231) (by decide +kernel))⟩
theorem mo_L_person : Mok mL_person 4 := ⟨tb4 (List.mem_of_getElem? (i := 228) (rfl)), tb1 (List.mem_of_getElem? (i := 0) (by decide +kernel)), by decide +kernel, by decide +kernel, by decide +kernel, by decide⟩
theorem ms_L_person : Cond.static yL_person ∈ lw_tbl := tb4 (List.mem_of_getElem? (i := 227) (by decide +kernel))
theorem mo_X10_quick : Mok mX10_quick 1 := ⟨tb5 (List.mem_of_getElem? (i := 212) (rfl)), tb1 (List.mem_of_getElem? (i := 1) (by decide +kernel)), by decide +kernel, by decide +kernel, by decide +kernel, by decide⟩
theorem mv_X10_quick : MokV mX10_quick := ⟨tb5 (List.mem_of_getElem? (i := 210) (by decide +kernel)), tb5 (List.mem_of_getElem? (i := 211) (by decide +kernel))⟩
theorem mo_L_quick : Mok mL_quick 3 := ⟨tb5 (List.mem_of_getElem? (i := 208) (rfl)), tb1 (List.mem_of_getElem? (i := 0) (by decide +kernel)), by decide +kernel, by decide +kernel, by decide +kernel, by decide⟩
theorem ms_L_quick : Cond.static yL_quick ∈ lw_tbl := tb5 (List.mem_of_getElem? (i := 207) (by decide +kernel))
theorem mo_X10_reached : Mok mX10_reached 2 := ⟨tb5 (List.mem_of_getElem? (i := 116) (rfl)), tb1 (List.mem_of_getElem? (i := 1) (by decide +kernel)), by decide +kernel, by decide +kernel, by decide +kernel, by decide⟩
theorem mv_X10_reached : MokV mX10_reached := ⟨tb5 (List.mem_of_getElem? (i := 114) (by decide +kernel)), tb5 (List.mem_of_getElem? (i := 115) (by decide +kernel))⟩
theorem mo_L_reached : Mok mL_reached 4 := ⟨tb5 (List.mem_of_getElem? (i := 112) (rfl)), tb1 (List.mem_of_getElem? (i := 0) (by decide +kernel)), by decide +kernel, by decide +kernel, by decide +kernel, by decide⟩
theorem ms_L_reached : Cond.static yL_reached ∈ lw_tbl := tb5 (List.mem_of_getElem? (i := 111) (by decide +kernel))
theorem mo_X8_keep : Mok mX8_keep 3 := ⟨tb5 (List.mem_of_getElem? (i := 205) (rfl)), tb1 (List.mem_of_getElem? (i := 7) (by decide +kernel)), by decide +kernel, by decide +kernel, by decide +kernel, by decide⟩
theorem mv_X8_keep : MokV mX8_keep := ⟨tb5 (List.mem_of_getElem? (i := 203) (by decide +kernel)), tb5 (List.mem_of_getElem? (i := 204) (by decide +kernel))⟩
theorem mo_X10_see : Mok mX10_see 3 := ⟨tb5 (List.mem_of_getElem? (i := 201) (rfl)), tb1 (List.mem_of_getElem? (i := 1) (by decide +kernel)), by decide +kernel, by decide +kernel, by decide +kernel, by decide⟩
theorem mv_X10_see : MokV mX10_see := ⟨tb5 (List.mem_of_getElem? (i := 199) (by decide +kernel)), tb5 (List.mem_of_getElem? (i := 200) (by decide +kernel))⟩
theorem mo_L_see : Mok mL_see 5 := ⟨tb5 (List.mem_of_getElem? (i := 197) (rfl)), tb1 (List.mem_of_getElem? (i := 0) (by decide +kernel)), by decide +kernel, by decide +kernel, by decide +kernel, by decide⟩
theorem ms_L_see : Cond.static yL_see ∈ lw_tbl := tb5 (List.mem_of_getElem? (i := 196) (by decide +kernel))
theorem mo_X10_send : Mok mX10_send 2 := ⟨tb5 (List.mem_of_getElem? (i := 41) (rfl)), tb1 (List.mem_of_getElem? (i := 1) (by decide +kernel)), by decide +kernel, by decide +kernel, by decide +kernel, by decide⟩
theorem mv_X10_send : MokV mX10_send := ⟨tb5 (List.mem_of_getElem? (i := 39) (by decide +kernel)), tb5 (List.mem_of_getElem? (i := 40) (by decide +kernel))⟩
theorem mo_L_send : Mok mL_send 4 := ⟨tb5 (List.mem_of_getElem? (i := 37) (rfl)), tb1 (List.mem_of_getElem? (i := 0) (by decide +kernel)), by decide +kernel, by decide +kernel, by decide +kernel, by decide⟩
theorem ms_L_send : Cond.static yL_send ∈ lw_tbl := tb5 (List.mem_of_getElem? (i := 36) (by decide +kernel))
theorem mo_X10_stile : Mok mX10_stile 2 := ⟨tb5 (List.mem_of_getElem? (i := 29) (rfl)), tb1 (List.mem_of_getElem? (i := 1) (by decide +kernel)), by decide +kernel, by decide +kernel, by decide +kernel, by decide⟩
theorem mv_X10_stile : MokV mX10_stile := ⟨tb5 (List.mem_of_getElem? (i := 27) (by decide +kernel)), tb5 (List.mem_of_getElem? (i := 28) (by decide +kernel))⟩
theorem mo_L_stile : Mok mL_stile 4 := ⟨tb5 (List.mem_of_getElem? (i := 25) (rfl)), tb1 (List.mem_of_getElem? (i := 0) (by decide +kernel)), by decide +kernel, by decide +kernel, by decide +kernel, by decide⟩
theorem ms_L_stile : Cond.static yL_stile ∈ lw_tbl := tb5 (List.mem_of_getElem? (i := 24) (by decide +kernel))
