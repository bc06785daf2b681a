theorem mo_X10_then : Mok mX10_then 3 := ⟨tb5 (List.mem_of_getElem? (i := 55) (rfl)), tb1 (List.mem_of_getElem? (i := 1) (by decide +kernel)), by decide +kernel, by decide +kernel, by decide +kernel, by decide⟩
theorem mv_X10_then : MokV mX10_then := ⟨tb5 (List.mem_of_getElem? (i := 53) (by decide +kernel)), tb5 (List.mem_of_getElem? (i := 54) (by decide +kernel))⟩
theorem mo_L_then : Mok mL_then 5 := ⟨tb5 (List.mem_of_getElem? (i := 51) (rfl)), tb1 (List.mem_of_getElem? (i := 0) (by decide +kernel)), by decide +kernel, by decide +kernel, by decide +kernel, by decide⟩
theorem ms_L_then : Cond.static yL_then ∈ lw_tbl := tb5 (List.mem_of_getElem? (i := 50) (by decide +kernel))
theorem mo_X10_type : Mok mX10_type 2 := ⟨tb5 (List.mem_of_getElem? (i := 21) (rfl)), tb1 (List.mem_of_getElem? (i := 1) (by decide +kernel)), by decide +kernel, by decide +kernel, by decide +kernel, by decide⟩
theorem mv_X10_type : MokV mX10_type := ⟨tb5 (List.mem_of_getElem? (i := 19) (by decide +kernel)), tb5 (List.mem_of_getElem? (i := 20) (by decide +kernel))⟩
theorem mo_L_type : Mok mL_type 4 := ⟨tb5 (List.mem_of_getElem? (i := 17) (rfl)), tb1 (List.mem_of_getElem? (i := 0) (by decide +kernel)), by decide +kernel, by decide +kernel, by decide +kernel, by decide⟩
theorem ms_L_type : Cond.static yL_type ∈ lw_tbl := tb5 (List.mem_of_getElem? (i := 16) (by decide +kernel))
theorem mo_X5_fewestToClear : Mok mX5_fewestToClear 2 := ⟨tb5 (List.mem_of_getElem? (i := 105) (rfl)), tb1 (List.mem_of_getElem? (i := 9) (by decide +kernel)), by decide +kernel, by decide +kernel, by decide +kernel, by decide⟩
theorem mv_X5_fewestToClear : MokV mX5_fewestToClear := ⟨tb5 (List.mem_of_getElem? (i := 103) (by decide +kernel)), tb5 (List.mem_of_getElem? (i := 104) (by decide +kernel))⟩
theorem mo_X5_needed : Mok mX5_needed 2 := ⟨tb5 (List.mem_of_getElem? (i := 109) (rfl)), tb1 (List.mem_of_getElem? (i := 9) (by decide +kernel)), by decide +kernel, by decide +kernel, by decide +kernel, by decide⟩
theorem mv_X5_needed : MokV mX5_needed := ⟨tb5 (List.mem_of_getElem? (i := 107) (by decide +kernel)), tb5 (List.mem_of_getElem? (i := 108) (by decide +kernel))⟩
theorem mo_X10_way : Mok mX10_way 3 := ⟨tb5 (List.mem_of_getElem? (i := 100) (rfl)), tb1 (List.mem_of_getElem? (i := 1) (by decide +kernel)), by decide +kernel, by decide +kernel, by decide +kernel, by decide⟩
theorem mv_X10_way : MokV mX10_way := ⟨tb5 (List.mem_of_getElem? (i := 98) (by decide +kernel)), tb5 (List.mem_of_getElem? (i := 99) (by decide +kernel))⟩
theorem mo_L_way : Mok mL_way 5 := ⟨tb5 (List.mem_of_getElem? (i := 96) (rfl)), tb1 (List.mem_of_getElem? (i := 0) (by decide +kernel)), by decide +kernel, by decide +kernel, by decide +kernel, by decide⟩
theorem ms_L_way : Cond.static yL_way ∈ lw_tbl := tb5 (List.mem_of_getElem? (i := 95) (by decide +kernel))
theorem mo_X5_pathsOver : Mok mX5_pathsOver 1 := ⟨tb6 (List.mem_of_getElem? (i := 92) (rfl)), tb1 (List.mem_of_getElem? (i := 9) (by decide +kernel)), by decide +kernel, by decide +kernel, by decide +kernel, by decide⟩
theorem mv_X5_pathsOver : MokV mX5_pathsOver := ⟨tb6 (List.mem_of_getElem? (i := 91) (by decide +kernel)), ps4 (n := 5) (List.mem_of_getElem? (i := 7) (by decide +kernel))⟩
theorem mo_X5_shortestWays : Mok mX5_shortestWays 2 := ⟨tb6 (List.mem_of_getElem? (i := 87) (rfl)), tb1 (List.mem_of_getElem? (i := 9) (by decide +kernel)), by decide +kernel, by decide +kernel, by decide +kernel, by decide⟩
theorem mv_X5_shortestWays : MokV mX5_shortestWays := ⟨tb6 (List.mem_of_getElem? (i := 85) (by decide +kernel)), tb6 (List.mem_of_getElem? (i := 86) (by decide +kernel))⟩
theorem mo_X10_ways : Mok mX10_ways 2 := ⟨tb6 (List.mem_of_getElem? (i := 83) (rfl)), tb1 (List.mem_of_getElem? (i := 1) (by decide +kernel)), by decide +kernel, by decide +kernel, by decide +kernel, by decide⟩
theorem mv_X10_ways : MokV mX10_ways := ⟨tb6 (List.mem_of_getElem? (i := 81) (by decide +kernel)), tb6 (List.mem_of_getElem? (i := 82) (by decide +kernel))⟩
theorem mo_L_ways : Mok mL_ways 4 := ⟨tb6 (List.mem_of_getElem? (i := 79) (rfl)), tb1 (List.mem_of_getElem? (i := 0) (by decide +kernel)), by decide +kernel, by decide +kernel, by decide +kernel, by decide⟩
theorem ms_L_ways : Cond.static yL_ways ∈ lw_tbl := tb6 (List.mem_of_getElem? (i := 78) (by decide +kernel))
theorem mo_X3_draw : Mok mX3_draw 1 := ⟨tb6 (List.mem_of_getElem? (i := 56) (rfl)), tb1 (List.mem_of_getElem? (i := 11) (by decide +kernel)), by decide +kernel, by decide +kernel, by decide +kernel, by decide⟩
theorem mv_X3_draw : MokV mX3_draw := ⟨tb6 (List.mem_of_getElem? (i := 54) (by decide +kernel)), tb6 (List.mem_of_getElem? (i := 55) (by decide +kernel))⟩
theorem mo_X10_drawPlace : Mok mX10_drawPlace 0 := ⟨tb6 (List.mem_of_getElem? (i := 61) (rfl)), tb1 (List.mem_of_getElem? (i := 1) (by decide +kernel)), by decide +kernel, by decide +kernel, by decide +kernel, by decide⟩
theorem mv_X10_drawPlace : MokV mX10_drawPlace := ⟨tb6 (List.mem_of_getElem? (i := 60) (by decide +kernel)), ps4 (n := 20) (List.mem_of_getElem? (i := 6) (by decide +kernel))⟩
theorem mo_X10_drawWhatHappens : Mok mX10_drawWhatHappens 0 := ⟨tb6 (List.mem_of_getElem? (i := 52) (rfl)), tb1 (List.mem_of_getElem? (i := 1) (by decide +kernel)), by decide +kernel, by decide +kernel, by decide +kernel, by decide⟩
theorem mv_X10_drawWhatHappens : MokV mX10_drawWhatHappens := ⟨tb6 (List.mem_of_getElem? (i := 51) (by decide +kernel)), ps4 (n := 20) (List.mem_of_getElem? (i := 5) (by decide +kernel))⟩
theorem mo_X2_comingsOfAll : Mok mX2_comingsOfAll 0 := ⟨tb6 (List.mem_of_getElem? (i := 65) (rfl)), tb1 (List.mem_of_getElem? (i := 8) (by decide +kernel)), by decide +kernel, by decide +kernel, by decide +kernel, by decide⟩
theorem mv_X2_comingsOfAll : MokV mX2_comingsOfAll := ⟨tb6 (List.mem_of_getElem? (i := 63) (by decide +kernel)), tb6 (List.mem_of_getElem? (i := 64) (by decide +kernel))⟩
theorem mo_X10_years : Mok mX10_years 3 := ⟨tb6 (List.mem_of_getElem? (i := 48) (rfl)), tb1 (List.mem_of_getElem? (i := 1) (by decide +kernel)), by decide +kernel, by decide +kernel, by decide +kernel, by decide⟩
theorem mv_X10_years : MokV mX10_years := ⟨tb6 (List.mem_of_getElem? (i := 46) (by decide +kernel)), tb6 (List.mem_of_getElem? (i := 47) (by decide +kernel))⟩
theorem mo_L_years : Mok mL_years 5 := ⟨tb6 (List.mem_of_getElem? (i := 44) (rfl)), tb1 (List.mem_of_getElem? (i := 0) (by decide +kernel)), by decide +kernel, by decide +kernel, by decide +kernel, by decide⟩
theorem ms_L_years : Cond.static yL_years ∈ lw_tbl := tb6 (List.mem_of_getElem? (i := 43) (by decide +kernel))
theorem mo_X0_copyFrom : Mok mX0_copyFrom 1 := ⟨tb3 (List.mem_of_getElem? (i := 64) (rfl)), tb1 (List.mem_of_getElem? (i := 6) (by decide +kernel)), by decide +kernel, by decide +kernel, by decide +kernel, by decide⟩
theorem mv_X0_copyFrom : MokV mX0_copyFrom := ⟨tb3 (List.mem_of_getElem? (i := 62) (by decide +kernel)), tb3 (List.mem_of_getElem? (i := 63) (by decide +kernel))⟩
theorem mo_X9_init : Mok mX9_init 0 := ⟨tb1 (List.mem_of_getElem? (i := 62) (rfl)), tb1 (List.mem_of_getElem? (i := 4) (by decide +kernel)), by decide +kernel, by decide +kernel, by decide +kernel, by decide⟩
theorem mi_X9_init : Cond.instanceMethod yX9_init ∈ lw_tbl := tb1 (List.mem_of_getElem? (i := 61) (by decide +kernel))
theorem mo_X0_init : Mok mX0_init 0 := ⟨tb1 (List.mem_of_getElem? (i := 202) (rfl)), tb1 (List.mem_of_getElem? (i := 6) (by decide +kernel)), by decide +kernel, by decide +kernel, by decide +kernel, by decide⟩
theorem mi_X0_init : Cond.instanceMethod yX0_init ∈ lw_tbl := tb1 (List.mem_of_getElem? (i := 201) (by decide +kernel))
theorem mo_X0_takeBack : Mok mX0_takeBack 1 := ⟨tb3 (List.mem_of_getElem? (i := 48) (rfl)), tb1 (List.mem_of_getElem? (i := 6) (by decide +kernel)), by decide +kernel, by decide +kernel, by decide +kernel, by decide⟩
theorem mv_X0_takeBack : MokV mX0_takeBack := ⟨tb3 (List.mem_of_getElem? (i := 46) (by decide +kernel)), tb3 (List.mem_of_getElem? (i := 47) (by decide +kernel))⟩
theorem mo_X10_days : Mok mX10_days 1 := ⟨tb2 (List.mem_of_getElem? (i := 169) (rfl)), tb1 (List.mem_of_getElem? (i := 1) (by decide +kernel)), by decide +kernel, by decide +kernel, by decide +kernel, by decide⟩
theorem mv_X10_days : MokV mX10_days := ⟨tb2 (List.mem_of_getElem? (i := 167) (by decide +kernel)), tb2 (List.mem_of_getElem? (i := 168) (by decide +kernel))⟩
theorem mo_X10_fault : Mok mX10_fault 0 := ⟨tb2 (List.mem_of_getElem? (i := 165) (rfl)), tb1 (List.mem_of_getElem? (i := 1) (by decide +kernel)), by decide +kernel, by decide +kernel, by decide +kernel, by decide⟩
theorem mv_X10_fault : MokV mX10_fault := ⟨tb2 (List.mem_of_getElem? (i := 163) (by decide +kernel)), tb2 (List.mem_of_getElem? (i := 164) (by decide +kernel))⟩
theorem mo_X10_putBytes : Mok mX10_putBytes 1 := ⟨tb2 (List.mem_of_getElem? (i := 161) (rfl)), tb1 (List.mem_of_getElem? (i := 1) (by decide +kernel)), by decide +kernel, by decide +kernel, by decide +kernel, by decide⟩
theorem mv_X10_putBytes : MokV mX10_putBytes := ⟨tb2 (List.mem_of_getElem? (i := 160) (by decide +kernel)), ps1 (n := 20) (List.mem_of_getElem? (i := 0) (by decide +kernel))⟩
theorem mo_X10_feed : Mok mX10_feed 5 := ⟨tb2 (List.mem_of_getElem? (i := 157) (rfl)), tb1 (List.mem_of_getElem? (i := 1) (by decide +kernel)), by decide +kernel, by decide +kernel, by decide +kernel, by decide⟩
theorem mv_X10_feed : MokV mX10_feed := ⟨tb2 (List.mem_of_getElem? (i := 155) (by decide +kernel)), tb2 (List.mem_of_getElem? (i := 156) (by decide +kernel))⟩
theorem mo_X10_forget : Mok mX10_forget 0 := ⟨tb3 (List.mem_of_getElem? (i := 52) (rfl)), tb1 (List.mem_of_getElem? (i := 1) (by decide +kernel)), by decide +kernel, by decide +kernel, by decide +kernel, by decide⟩
theorem mv_X10_forget : MokV mX10_forget := ⟨tb3 (List.mem_of_getElem? (i := 50) (by decide +kernel)), tb3 (List.mem_of_getElem? (i := 51) (by decide +kernel))⟩
theorem mo_X8_copyFrom : Mok mX8_copyFrom 1 := ⟨tb3 (List.mem_of_getElem? (i := 68) (rfl)), tb1 (List.mem_of_getElem? (i := 7) (by decide +kernel)), by decide +kernel, by decide +kernel, by decide +kernel, by decide⟩
theorem mv_X8_copyFrom : MokV mX8_copyFrom := ⟨tb3 (List.mem_of_getElem? (i := 66) (by decide +kernel)), tb3 (List.mem_of_getElem? (i := 67) (by decide +kernel))⟩
theorem mo_X10_image : Mok mX10_image 0 := ⟨tb3 (List.mem_of_getElem? (i := 60) (rfl)), tb1 (List.mem_of_getElem? (i := 1) (by decide +kernel)), by decide +kernel, by decide +kernel, by decide +kernel, by decide⟩
theorem mv_X10_image : MokV mX10_image := ⟨tb3 (List.mem_of_getElem? (i := 58) (by decide +kernel)), tb3 (List.mem_of_getElem? (i := 59) (by decide +kernel))⟩
theorem mo_X7_init : Mok mX7_init 0 := ⟨tb1 (List.mem_of_getElem? (i := 44) (rfl)), tb1 (List.mem_of_getElem? (i := 3) (by decide +kernel)), by decide +kernel, by decide +kernel, by decide +kernel, by decide⟩
theorem mi_X7_init : Cond.instanceMethod yX7_init ∈ lw_tbl := tb1 (List.mem_of_getElem? (i := 43) (by decide +kernel))
theorem mo_X1_init : Mok mX1_init 0 := ⟨tb1 (List.mem_of_getElem? (i := 38) (rfl)), tb1 (List.mem_of_getElem? (i := 2) (by decide +kernel)), by decide +kernel, by decide +kernel, by decide +kernel, by decide⟩
theorem mi_X1_init : Cond.instanceMethod yX1_init ∈ lw_tbl := tb1 (List.mem_of_getElem? (i := 37) (by decide +kernel))
theorem mo_X5_init : Mok mX5_init 0 := ⟨tb2 (List.mem_of_getElem? (i := 10) (rfl)), tb1 (List.mem_of_getElem? (i := 9) (by decide +kernel)), by decide +kernel, by decide +kernel, by decide +kernel, by decide⟩
theorem mi_X5_init : Cond.instanceMethod yX5_init ∈ lw_tbl := tb2 (List.mem_of_getElem? (i := 9) (by decide +kernel))
theorem mo_X2_init : Mok mX2_init 1 := ⟨tb2 (List.mem_of_getElem? (i := 2) (rfl)), tb1 (List.mem_of_getElem? (i := 8) (by decide +kernel)), by decide +kernel, by decide +kernel, by decide +kernel, by decide⟩
theorem mi_X2_init : Cond.instanceMethod yX2_init ∈ lw_tbl := tb2 (List.mem_of_getElem? (i := 1) (by decide +kernel))
theorem mo_X3_init : Mok mX3_init 0 := ⟨tb2 (List.mem_of_getElem? (i := 85) (rfl)), tb1 (List.mem_of_getElem? (i := 11) (by decide +kernel)), by decide +kernel, by decide +kernel, by decide +kernel, by decide⟩
theorem mi_X3_init : Cond.instanceMethod yX3_init ∈ lw_tbl := tb2 (List.mem_of_getElem? (i := 84) (by decide +kernel))
theorem mo_X4_init : Mok mX4_init 0 := ⟨tb2 (List.mem_of_getElem? (i := 67) (rfl)), tb1 (List.mem_of_getElem? (i := 10) (by decide +kernel)), by decide +kernel, by decide +kernel, by decide +kernel, by decide⟩
theorem mi_X4_init : Cond.instanceMethod yX4_init ∈ lw_tbl := tb2 (List.mem_of_getElem? (i := 66) (by decide +kernel))
theorem mo_X6_init : Mok mX6_init 1 := ⟨tb1 (List.mem_of_getElem? (i := 157) (rfl)), tb1 (List.mem_of_getElem? (i := 5) (by decide +kernel)), by decide +kernel, by decide +kernel, by decide +kernel, by decide⟩
theorem mi_X6_init : Cond.instanceMethod yX6_init ∈ lw_tbl := tb1 (List.mem_of_getElem? (i := 156) (by decide +kernel))
theorem mo_X8_init : Mok mX8_init 0 := ⟨tb1 (List.mem_of_getElem? (i := 222) (rfl)), tb1 (List.mem_of_getElem? (i := 7) (by decide +kernel)), by decide +kernel, by decide +kernel, by decide +kernel, by decide⟩
theorem mi_X8_init : Cond.instanceMethod yX8_init ∈ lw_tbl := tb1 (List.mem_of_getElem? (i := 221) (by decide +kernel))
theorem mo_X10_init : Mok mX10_init 0 := ⟨tb1 (List.mem_of_getElem? (i := 30) (rfl)), tb1 (List.mem_of_getElem? (i := 1) (by decide +kernel)), by decide +kernel, by decide +kernel, by decide +kernel, by decide⟩
theorem mi_X10_init : Cond.instanceMethod yX10_init ∈ lw_tbl := tb1 (List.mem_of_getElem? (i := 29) (by decide +kernel))
theorem mo_X10_restore : Mok mX10_restore 0 := ⟨tb3 (List.mem_of_getElem? (i := 73) (rfl)), tb1 (List.mem_of_getElem? (i := 1) (by decide +kernel)), by decide +kernel, by decide +kernel, by decide +kernel, by decide⟩
theorem mv_X10_restore : MokV mX10_restore := ⟨tb3 (List.mem_of_getElem? (i := 71) (by decide +kernel)), tb3 (List.mem_of_getElem? (i := 72) (by decide +kernel))⟩
theorem mo_X10_undo : Mok mX10_undo 0 := ⟨tb3 (List.mem_of_getElem? (i := 44) (rfl)), tb1 (List.mem_of_getElem? (i := 1) (by decide +kernel)), by decide +kernel, by decide +kernel, by decide +kernel, by decide⟩
theorem mv_X10_undo : MokV mX10_undo := ⟨tb3 (List.mem_of_getElem? (i := 42) (by decide +kernel)), tb3 (List.mem_of_getElem? (i := 43) (by decide +kernel))⟩
theorem mo_X11_bounded : Mok mX11_bounded 3 := ⟨tb8 (List.mem_of_getElem? (i := 91) (rfl)), tb1 (List.mem_of_getElem? (i := 12) (by decide +kernel)), by decide +kernel, by decide +kernel, by decide +kernel, by decide⟩
theorem ms_X11_bounded : Cond.static yX11_bounded ∈ lw_tbl := tb8 (List.mem_of_getElem? (i := 90) (by decide +kernel))
theorem mo_X11_works : Mok mX11_works 3 := ⟨tb8 (List.mem_of_getElem? (i := 80) (rfl)), tb1 (List.mem_of_getElem? (i := 12) (by decide +kernel)), by decide +kernel, by decide +kernel, by decide +kernel, by decide⟩
theorem ms_X11_works : Cond.static yX11_works ∈ lw_tbl := tb8 (List.mem_of_getElem? (i := 79) (by decide +kernel))
theorem mo_X11_reckons : Mok mX11_reckons 1 := ⟨tb8 (List.mem_of_getElem? (i := 77) (rfl)), tb1 (List.mem_of_getElem? (i := 12) (by decide +kernel)), by decide +kernel, by decide +kernel, by decide +kernel, by decide⟩
theorem mv_X11_reckons : MokV mX11_reckons := ⟨tb8 (List.mem_of_getElem? (i := 76) (by decide +kernel)), ps7 (n := 60) (List.mem_of_getElem? (i := 7) (by decide +kernel))⟩
theorem mo_X11_standAt : Mok mX11_standAt 2 := ⟨tb8 (List.mem_of_getElem? (i := 41) (rfl)), tb1 (List.mem_of_getElem? (i := 12) (by decide +kernel)), by decide +kernel, by decide +kernel, by decide +kernel, by decide⟩
theorem mv_X11_standAt : MokV mX11_standAt := ⟨tb8 (List.mem_of_getElem? (i := 40) (by decide +kernel)), ps7 (n := 60) (List.mem_of_getElem? (i := 0) (by decide +kernel))⟩
theorem mo_X11_fadesBy : Mok mX11_fadesBy 2 := ⟨tb8 (List.mem_of_getElem? (i := 88) (rfl)), tb1 (List.mem_of_getElem? (i := 12) (by decide +kernel)), by decide +kernel, by decide +kernel, by decide +kernel, by decide⟩
theorem mv_X11_fadesBy : MokV mX11_fadesBy := ⟨tb8 (List.mem_of_getElem? (i := 87) (by decide +kernel)), ps7 (n := 60) (List.mem_of_getElem? (i := 9) (by decide +kernel))⟩
theorem mo_X11_isThere : Mok mX11_isThere 1 := ⟨tb7 (List.mem_of_getElem? (i := 219) (rfl)), tb1 (List.mem_of_getElem? (i := 12) (by decide +kernel)), by decide +kernel, by decide +kernel, by decide +kernel, by decide⟩
theorem mv_X11_isThere : MokV mX11_isThere := ⟨tb7 (List.mem_of_getElem? (i := 218) (by decide +kernel)), ps6 (n := 60) (List.mem_of_getElem? (i := 4) (by decide +kernel))⟩
theorem mo_X11_lesser : Mok mX11_lesser 2 := ⟨tb7 (List.mem_of_getElem? (i := 134) (rfl)), tb1 (List.mem_of_getElem? (i := 12) (by decide +kernel)), by decide +kernel, by decide +kernel, by decide +kernel, by decide⟩
theorem ms_X11_lesser : Cond.static yX11_lesser ∈ lw_tbl := tb7 (List.mem_of_getElem? (i := 133) (by decide +kernel))
theorem mo_X11_isGoing : Mok mX11_isGoing 3 := ⟨tb8 (List.mem_of_getElem? (i := 73) (rfl)), tb1 (List.mem_of_getElem? (i := 12) (by decide +kernel)), by decide +kernel, by decide +kernel, by decide +kernel, by decide⟩
theorem mv_X11_isGoing : MokV mX11_isGoing := ⟨tb8 (List.mem_of_getElem? (i := 72) (by decide +kernel)), ps7 (n := 60) (List.mem_of_getElem? (i := 6) (by decide +kernel))⟩
theorem mo_X11_beside : Mok mX11_beside 3 := ⟨tb7 (List.mem_of_getElem? (i := 231) (rfl)), tb1 (List.mem_of_getElem? (i := 12) (by decide +kernel)), by decide +kernel, by decide +kernel, by decide +kernel, by decide⟩
theorem mv_X11_beside : MokV mX11_beside := ⟨tb7 (List.mem_of_getElem? (i := 230) (by decide +kernel)), ps6 (n := 60) (List.mem_of_getElem? (i := 7) (by decide +kernel))⟩
theorem mo_X11_isWhite : Mok mX11_isWhite 2 := ⟨tb7 (List.mem_of_getElem? (i := 223) (rfl)), tb1 (List.mem_of_getElem? (i := 12) (by decide +kernel)), by decide +kernel, by decide +kernel, by decide +kernel, by decide⟩
theorem mv_X11_isWhite : MokV mX11_isWhite := ⟨tb7 (List.mem_of_getElem? (i := 222) (by decide +kernel)), ps6 (n := 60) (List.mem_of_getElem? (i := 5) (by decide +kernel))⟩
theorem mo_X11_laysFar : Mok mX11_laysFar 2 := ⟨tb7 (List.mem_of_getElem? (i := 227) (rfl)), tb1 (List.mem_of_getElem? (i := 12) (by decide +kernel)), by decide +kernel, by decide +kernel, by decide +kernel, by decide⟩
theorem mv_X11_laysFar : MokV mX11_laysFar := ⟨tb7 (List.mem_of_getElem? (i := 226) (by decide +kernel)), ps6 (n := 60) (List.mem_of_getElem? (i := 6) (by decide +kernel))⟩
theorem mo_X11_stepFrom : Mok mX11_stepFrom 2 := ⟨tb8 (List.mem_of_getElem? (i := 84) (rfl)), tb1 (List.mem_of_getElem? (i := 12) (by decide +kernel)), by decide +kernel, by decide +kernel, by decide +kernel, by decide⟩
theorem mv_X11_stepFrom : MokV mX11_stepFrom := ⟨tb8 (List.mem_of_getElem? (i := 83) (by decide +kernel)), ps7 (n := 60) (List.mem_of_getElem? (i := 8) (by decide +kernel))⟩
theorem mo_X11_walks : Mok mX11_walks 2 := ⟨tb8 (List.mem_of_getElem? (i := 69) (rfl)), tb1 (List.mem_of_getElem? (i := 12) (by decide +kernel)), by decide +kernel, by decide +kernel, by decide +kernel, by decide⟩
theorem mv_X11_walks : MokV mX11_walks := ⟨tb8 (List.mem_of_getElem? (i := 68) (by decide +kernel)), ps7 (n := 60) (List.mem_of_getElem? (i := 5) (by decide +kernel))⟩
theorem mo_X11_dayGoes : Mok mX11_dayGoes 1 := ⟨tb8 (List.mem_of_getElem? (i := 65) (rfl)), tb1 (List.mem_of_getElem? (i := 12) (by decide +kernel)), by decide +kernel, by decide +kernel, by decide +kernel, by decide⟩
theorem mv_X11_dayGoes : MokV mX11_dayGoes := ⟨tb8 (List.mem_of_getElem? (i := 64) (by decide +kernel)), ps7 (n := 60) (List.mem_of_getElem? (i := 4) (by decide +kernel))⟩
theorem mo_X11_right : Mok mX11_right 2 := ⟨tb7 (List.mem_of_getElem? (i := 74) (rfl)), tb1 (List.mem_of_getElem? (i := 12) (by decide +kernel)), by decide +kernel, by decide +kernel, by decide +kernel, by decide⟩
theorem mv_X11_right : MokV mX11_right := ⟨tb7 (List.mem_of_getElem? (i := 73) (by decide +kernel)), ps4 (n := 60) (List.mem_of_getElem? (i := 9) (by decide +kernel))⟩
theorem mo_X11_within : Mok mX11_within 3 := ⟨tb7 (List.mem_of_getElem? (i := 211) (rfl)), tb1 (List.mem_of_getElem? (i := 12) (by decide +kernel)), by decide +kernel, by decide +kernel, by decide +kernel, by decide⟩
theorem ms_X11_within : Cond.static yX11_within ∈ lw_tbl := tb7 (List.mem_of_getElem? (i := 210) (by decide +kernel))
theorem mo_X11_isSoon : Mok mX11_isSoon 3 := ⟨tb8 (List.mem_of_getElem? (i := 115) (rfl)), tb1 (List.mem_of_getElem? (i := 12) (by decide +kernel)), by decide +kernel, by decide +kernel, by decide +kernel, by decide⟩
theorem mv_X11_isSoon : MokV mX11_isSoon := ⟨tb8 (List.mem_of_getElem? (i := 114) (by decide +kernel)), ps7 (n := 60) (List.mem_of_getElem? (i := 10) (by decide +kernel))⟩
theorem mo_X11_isWhat : Mok mX11_isWhat 2 := ⟨tb8 (List.mem_of_getElem? (i := 19) (rfl)), tb1 (List.mem_of_getElem? (i := 12) (by decide +kernel)), by decide +kernel, by decide +kernel, by decide +kernel, by decide⟩
theorem mv_X11_isWhat : MokV mX11_isWhat := ⟨tb8 (List.mem_of_getElem? (i := 18) (by decide +kernel)), ps6 (n := 60) (List.mem_of_getElem? (i := 13) (by decide +kernel))⟩
theorem mo_X11_toldAs : Mok mX11_toldAs 1 := ⟨tb8 (List.mem_of_getElem? (i := 30) (rfl)), tb1 (List.mem_of_getElem? (i := 12) (by decide +kernel)), by decide +kernel, by decide +kernel, by decide +kernel, by decide⟩
theorem ms_X11_toldAs : Cond.static yX11_toldAs ∈ lw_tbl := tb8 (List.mem_of_getElem? (i := 29) (by decide +kernel))
theorem mo_X11_tries : Mok mX11_tries 0 := ⟨tb8 (List.mem_of_getElem? (i := 123) (rfl)), tb1 (List.mem_of_getElem? (i := 12) (by decide +kernel)), by decide +kernel, by decide +kernel, by decide +kernel, by decide⟩
theorem mv_X11_tries : MokV mX11_tries := ⟨tb8 (List.mem_of_getElem? (i := 122) (by decide +kernel)), ps7 (n := 60) (List.mem_of_getElem? (i := 12) (by decide +kernel))⟩
theorem mo_X11_ahead : Mok mX11_ahead 2 := ⟨tb8 (List.mem_of_getElem? (i := 151) (rfl)), tb1 (List.mem_of_getElem? (i := 12) (by decide +kernel)), by decide +kernel, by decide +kernel, by decide +kernel, by decide⟩
theorem mv_X11_ahead : MokV mX11_ahead := ⟨tb8 (List.mem_of_getElem? (i := 149) (by decide +kernel)), tb8 (List.mem_of_getElem? (i := 150) (by decide +kernel))⟩
theorem mo_X11_byteAt : Mok mX11_byteAt 1 := ⟨tb7 (List.mem_of_getElem? (i := 82) (rfl)), tb1 (List.mem_of_getElem? (i := 12) (by decide +kernel)), by decide +kernel, by decide +kernel, by decide +kernel, by decide⟩
theorem mv_X11_byteAt : MokV mX11_byteAt := ⟨tb7 (List.mem_of_getElem? (i := 81) (by decide +kernel)), ps4 (n := 60) (List.mem_of_getElem? (i := 11) (by decide +kernel))⟩
theorem mo_X11_isDigit : Mok mX11_isDigit 1 := ⟨tb7 (List.mem_of_getElem? (i := 88) (rfl)), tb1 (List.mem_of_getElem? (i := 12) (by decide +kernel)), by decide +kernel, by decide +kernel, by decide +kernel, by decide⟩
theorem ms_X11_isDigit : Cond.static yX11_isDigit ∈ lw_tbl := tb7 (List.mem_of_getElem? (i := 87) (by decide +kernel))
theorem mo_X11_isLetter : Mok mX11_isLetter 1 := ⟨tb7 (List.mem_of_getElem? (i := 85) (rfl)), tb1 (List.mem_of_getElem? (i := 12) (by decide +kernel)), by decide +kernel, by decide +kernel, by decide +kernel, by decide⟩
theorem ms_X11_isLetter : Cond.static yX11_isLetter ∈ lw_tbl := tb7 (List.mem_of_getElem? (i := 84) (by decide +kernel))
theorem mo_X11_goes : Mok mX11_goes 0 := ⟨tb7 (List.mem_of_getElem? (i := 78) (rfl)), tb1 (List.mem_of_getElem? (i := 12) (by decide +kernel)), by decide +kernel, by decide +kernel, by decide +kernel, by decide⟩
theorem mv_X11_goes : MokV mX11_goes := ⟨tb7 (List.mem_of_getElem? (i := 77) (by decide +kernel)), ps4 (n := 60) (List.mem_of_getElem? (i := 10) (by decide +kernel))⟩
theorem mo_X11_isGood : Mok mX11_isGood 0 := ⟨tb7 (List.mem_of_getElem? (i := 92) (rfl)), tb1 (List.mem_of_getElem? (i := 12) (by decide +kernel)), by decide +kernel, by decide +kernel, by decide +kernel, by decide⟩
theorem mv_X11_isGood : MokV mX11_isGood := ⟨tb7 (List.mem_of_getElem? (i := 91) (by decide +kernel)), ps4 (n := 60) (List.mem_of_getElem? (i := 12) (by decide +kernel))⟩
theorem mo_X11_wrong : Mok mX11_wrong 1 := ⟨tb7 (List.mem_of_getElem? (i := 115) (rfl)), tb1 (List.mem_of_getElem? (i := 12) (by decide +kernel)), by decide +kernel, by decide +kernel, by decide +kernel, by decide⟩
theorem mv_X11_wrong : MokV mX11_wrong := ⟨tb7 (List.mem_of_getElem? (i := 114) (by decide +kernel)), ps5 (n := 60) (List.mem_of_getElem? (i := 0) (by decide +kernel))⟩
theorem mo_X11_begins : Mok mX11_begins 2 := ⟨tb7 (List.mem_of_getElem? (i := 111) (rfl)), tb1 (List.mem_of_getElem? (i := 12) (by decide +kernel)), by decide +kernel, by decide +kernel, by decide +kernel, by decide⟩
theorem mv_X11_begins : MokV mX11_begins := ⟨tb7 (List.mem_of_getElem? (i := 110) (by decide +kernel)), ps4 (n := 60) (List.mem_of_getElem? (i := 15) (by decide +kernel))⟩
theorem mo_X11_bits : Mok mX11_bits 1 := ⟨tb9 (List.mem_of_getElem? (i := 23) (rfl)), tb1 (List.mem_of_getElem? (i := 12) (by decide +kernel)), by decide +kernel, by decide +kernel, by decide +kernel, by decide⟩
theorem ms_X11_bits : Cond.static yX11_bits ∈ lw_tbl := tb9 (List.mem_of_getElem? (i := 22) (by decide +kernel))
theorem mo_X11_canTake : Mok mX11_canTake 3 := ⟨tb8 (List.mem_of_getElem? (i := 199) (rfl)), tb1 (List.mem_of_getElem? (i := 12) (by decide +kernel)), by decide +kernel, by decide +kernel, by decide +kernel, by decide⟩
theorem mv_X11_canTake : MokV mX11_canTake := ⟨tb8 (List.mem_of_getElem? (i := 198) (by decide +kernel)), ps8 (n := 60) (List.mem_of_getElem? (i := 2) (by decide +kernel))⟩
theorem mo_X11_isPerson : Mok mX11_isPerson 1 := ⟨tb8 (List.mem_of_getElem? (i := 27) (rfl)), tb1 (List.mem_of_getElem? (i := 12) (by decide +kernel)), by decide +kernel, by decide +kernel, by decide +kernel, by decide⟩
theorem mv_X11_isPerson : MokV mX11_isPerson := ⟨tb8 (List.mem_of_getElem? (i := 26) (by decide +kernel)), ps6 (n := 60) (List.mem_of_getElem? (i := 14) (by decide +kernel))⟩
theorem mo_X11_candles : Mok mX11_candles 3 := ⟨tb8 (List.mem_of_getElem? (i := 235) (rfl)), tb1 (List.mem_of_getElem? (i := 12) (by decide +kernel)), by decide +kernel, by decide +kernel, by decide +kernel, by decide⟩
theorem mv_X11_candles : MokV mX11_candles := ⟨tb8 (List.mem_of_getElem? (i := 233) (by decide +kernel)), tb8 (List.mem_of_getElem? (i := 234) (by decide +kernel))⟩
theorem mo_X11_copies : Mok mX11_copies 2 := ⟨tb7 (List.mem_of_getElem? (i := 196) (rfl)), tb1 (List.mem_of_getElem? (i := 12) (by decide +kernel)), by decide +kernel, by decide +kernel, by decide +kernel, by decide⟩
theorem mv_X11_copies : MokV mX11_copies := ⟨tb7 (List.mem_of_getElem? (i := 195) (by decide +kernel)), ps6 (n := 60) (List.mem_of_getElem? (i := 2) (by decide +kernel))⟩
theorem mo_X11_isOpen : Mok mX11_isOpen 1 := ⟨tb7 (List.mem_of_getElem? (i := 177) (rfl)), tb1 (List.mem_of_getElem? (i := 12) (by decide +kernel)), by decide +kernel, by decide +kernel, by decide +kernel, by decide⟩
theorem ms_X11_isOpen : Cond.static yX11_isOpen ∈ lw_tbl := tb7 (List.mem_of_getElem? (i := 176) (by decide +kernel))
theorem mo_X11_puts : Mok mX11_puts 1 := ⟨tb7 (List.mem_of_getElem? (i := 170) (rfl)), tb1 (List.mem_of_getElem? (i := 12) (by decide +kernel)), by decide +kernel, by decide +kernel, by decide +kernel, by decide⟩
theorem mv_X11_puts : MokV mX11_puts := ⟨tb7 (List.mem_of_getElem? (i := 169) (by decide +kernel)), ps5 (n := 60) (List.mem_of_getElem? (i := 13) (by decide +kernel))⟩
theorem mo_X11_strength : Mok mX11_strength 1 := ⟨tb7 (List.mem_of_getElem? (i := 180) (rfl)), tb1 (List.mem_of_getElem? (i := 12) (by decide +kernel)), by decide +kernel, by decide +kernel, by decide +kernel, by decide⟩
theorem ms_X11_strength : Cond.static yX11_strength ∈ lw_tbl := tb7 (List.mem_of_getElem? (i := 179) (by decide +kernel))
theorem mo_X11_drops : Mok mX11_drops 1 := ⟨tb7 (List.mem_of_getElem? (i := 174) (rfl)), tb1 (List.mem_of_getElem? (i := 12) (by decide +kernel)), by decide +kernel, by decide +kernel, by decide +kernel, by decide⟩
theorem mv_X11_drops : MokV mX11_drops := ⟨tb7 (List.mem_of_getElem? (i := 173) (by decide +kernel)), ps5 (n := 60) (List.mem_of_getElem? (i := 14) (by decide +kernel))⟩
theorem mo_X11_closes : Mok mX11_closes 0 := ⟨tb7 (List.mem_of_getElem? (i := 188) (rfl)), tb1 (List.mem_of_getElem? (i := 12) (by decide +kernel)), by decide +kernel, by decide +kernel, by decide +kernel, by decide⟩
theorem mv_X11_closes : MokV mX11_closes := ⟨tb7 (List.mem_of_getElem? (i := 187) (by decide +kernel)), ps6 (n := 60) (List.mem_of_getElem? (i := 0) (by decide +kernel))⟩
theorem mo_X11_isSign : Mok mX11_isSign 1 := ⟨tb7 (List.mem_of_getElem? (i := 154) (rfl)), tb1 (List.mem_of_getElem? (i := 12) (by decide +kernel)), by decide +kernel, by decide +kernel, by decide +kernel, by decide⟩
theorem mv_X11_isSign : MokV mX11_isSign := ⟨tb7 (List.mem_of_getElem? (i := 153) (by decide +kernel)), ps5 (n := 60) (List.mem_of_getElem? (i := 9) (by decide +kernel))⟩
theorem mo_X11_deeper : Mok mX11_deeper 0 := ⟨tb7 (List.mem_of_getElem? (i := 150) (rfl)), tb1 (List.mem_of_getElem? (i := 12) (by decide +kernel)), by decide +kernel, by decide +kernel, by decide +kernel, by decide⟩
theorem mv_X11_deeper : MokV mX11_deeper := ⟨tb7 (List.mem_of_getElem? (i := 149) (by decide +kernel)), ps5 (n := 60) (List.mem_of_getElem? (i := 8) (by decide +kernel))⟩
theorem mo_X11_isOpened : Mok mX11_isOpened 0 := ⟨tb7 (List.mem_of_getElem? (i := 184) (rfl)), tb1 (List.mem_of_getElem? (i := 12) (by decide +kernel)), by decide +kernel, by decide +kernel, by decide +kernel, by decide⟩
theorem mv_X11_isOpened : MokV mX11_isOpened := ⟨tb7 (List.mem_of_getElem? (i := 183) (by decide +kernel)), ps5 (n := 60) (List.mem_of_getElem? (i := 15) (by decide +kernel))⟩
theorem mo_X11_spelled : Mok mX11_spelled 6 := ⟨tb7 (List.mem_of_getElem? (i := 106) (rfl)), tb1 (List.mem_of_getElem? (i := 12) (by decide +kernel)), by decide +kernel, by decide +kernel, by decide +kernel, by decide⟩
theorem ms_X11_spelled : Cond.static yX11_spelled ∈ lw_tbl := tb7 (List.mem_of_getElem? (i := 105) (by decide +kernel))
theorem mo_X11_letters : Mok mX11_letters 1 := ⟨tb7 (List.mem_of_getElem? (i := 103) (rfl)), tb1 (List.mem_of_getElem? (i := 12) (by decide +kernel)), by decide +kernel, by decide +kernel, by decide +kernel, by decide⟩
theorem ms_X11_letters : Cond.static yX11_letters ∈ lw_tbl := tb7 (List.mem_of_getElem? (i := 102) (by decide +kernel))
theorem mo_X11_knownWord : Mok mX11_knownWord 0 := ⟨tb7 (List.mem_of_getElem? (i := 100) (rfl)), tb1 (List.mem_of_getElem? (i := 12) (by decide +kernel)), by decide +kernel, by decide +kernel, by decide +kernel, by decide⟩
theorem mv_X11_knownWord : MokV mX11_knownWord := ⟨tb7 (List.mem_of_getElem? (i := 99) (by decide +kernel)), ps4 (n := 60) (List.mem_of_getElem? (i := 14) (by decide +kernel))⟩
theorem mo_X11_part : Mok mX11_part 0 := ⟨tb7 (List.mem_of_getElem? (i := 166) (rfl)), tb1 (List.mem_of_getElem? (i := 12) (by decide +kernel)), by decide +kernel, by decide +kernel, by decide +kernel, by decide⟩
theorem mv_X11_part : MokV mX11_part := ⟨tb7 (List.mem_of_getElem? (i := 165) (by decide +kernel)), ps5 (n := 60) (List.mem_of_getElem? (i := 12) (by decide +kernel))⟩
theorem mo_X11_waitsFor : Mok mX11_waitsFor 1 := ⟨tb7 (List.mem_of_getElem? (i := 162) (rfl)), tb1 (List.mem_of_getElem? (i := 12) (by decide +kernel)), by decide +kernel, by decide +kernel, by decide +kernel, by decide⟩
theorem mv_X11_waitsFor : MokV mX11_waitsFor := ⟨tb7 (List.mem_of_getElem? (i := 161) (by decide +kernel)), ps5 (n := 60) (List.mem_of_getElem? (i := 11) (by decide +kernel))⟩
theorem mo_X11_operand : Mok mX11_operand 1 := ⟨tb7 (List.mem_of_getElem? (i := 158) (rfl)), tb1 (List.mem_of_getElem? (i := 12) (by decide +kernel)), by decide +kernel, by decide +kernel, by decide +kernel, by decide⟩
theorem mv_X11_operand : MokV mX11_operand := ⟨tb7 (List.mem_of_getElem? (i := 157) (by decide +kernel)), ps5 (n := 60) (List.mem_of_getElem? (i := 10) (by decide +kernel))⟩
theorem mo_X11_expression : Mok mX11_expression 2 := ⟨tb7 (List.mem_of_getElem? (i := 146) (rfl)), tb1 (List.mem_of_getElem? (i := 12) (by decide +kernel)), by decide +kernel, by decide +kernel, by decide +kernel, by decide⟩
theorem mv_X11_expression : MokV mX11_expression := ⟨tb7 (List.mem_of_getElem? (i := 145) (by decide +kernel)), ps5 (n := 60) (List.mem_of_getElem? (i := 7) (by decide +kernel))⟩
theorem mo_X11_need : Mok mX11_need 1 := ⟨tb7 (List.mem_of_getElem? (i := 192) (rfl)), tb1 (List.mem_of_getElem? (i := 12) (by decide +kernel)), by decide +kernel, by decide +kernel, by decide +kernel, by decide⟩
theorem mv_X11_need : MokV mX11_need := ⟨tb7 (List.mem_of_getElem? (i := 191) (by decide +kernel)), ps6 (n := 60) (List.mem_of_getElem? (i := 1) (by decide +kernel))⟩
theorem mo_X11_number : Mok mX11_number 2 := ⟨tb7 (List.mem_of_getElem? (i := 123) (rfl)), tb1 (List.mem_of_getElem? (i := 12) (by decide +kernel)), by decide +kernel, by decide +kernel, by decide +kernel, by decide⟩
theorem mv_X11_number : MokV mX11_number := ⟨tb7 (List.mem_of_getElem? (i := 122) (by decide +kernel)), ps5 (n := 60) (List.mem_of_getElem? (i := 2) (by decide +kernel))⟩
theorem mo_X11_readsDeed : Mok mX11_readsDeed 0 := ⟨tb7 (List.mem_of_getElem? (i := 119) (rfl)), tb1 (List.mem_of_getElem? (i := 12) (by decide +kernel)), by decide +kernel, by decide +kernel, by decide +kernel, by decide⟩
theorem mv_X11_readsDeed : MokV mX11_readsDeed := ⟨tb7 (List.mem_of_getElem? (i := 118) (by decide +kernel)), ps5 (n := 60) (List.mem_of_getElem? (i := 1) (by decide +kernel))⟩
theorem mo_X11_isOneOf : Mok mX11_isOneOf 1 := ⟨tb7 (List.mem_of_getElem? (i := 131) (rfl)), tb1 (List.mem_of_getElem? (i := 12) (by decide +kernel)), by decide +kernel, by decide +kernel, by decide +kernel, by decide⟩
theorem mv_X11_isOneOf : MokV mX11_isOneOf := ⟨tb7 (List.mem_of_getElem? (i := 130) (by decide +kernel)), ps5 (n := 60) (List.mem_of_getElem? (i := 4) (by decide +kernel))⟩
theorem mo_X11_readsPlace : Mok mX11_readsPlace 0 := ⟨tb7 (List.mem_of_getElem? (i := 142) (rfl)), tb1 (List.mem_of_getElem? (i := 12) (by decide +kernel)), by decide +kernel, by decide +kernel, by decide +kernel, by decide⟩
theorem mv_X11_readsPlace : MokV mX11_readsPlace := ⟨tb7 (List.mem_of_getElem? (i := 141) (by decide +kernel)), ps5 (n := 60) (List.mem_of_getElem? (i := 6) (by decide +kernel))⟩
theorem mo_X11_readsPerson : Mok mX11_readsPerson 0 := ⟨tb7 (List.mem_of_getElem? (i := 138) (rfl)), tb1 (List.mem_of_getElem? (i := 12) (by decide +kernel)), by decide +kernel, by decide +kernel, by decide +kernel, by decide⟩
theorem mv_X11_readsPerson : MokV mX11_readsPerson := ⟨tb7 (List.mem_of_getElem? (i := 137) (by decide +kernel)), ps5 (n := 60) (List.mem_of_getElem? (i := 5) (by decide +kernel))⟩
theorem mo_X11_readsStile : Mok mX11_readsStile 0 := ⟨tb7 (List.mem_of_getElem? (i := 127) (rfl)), tb1 (List.mem_of_getElem? (i := 12) (by decide +kernel)), by decide +kernel, by decide +kernel, by decide +kernel, by decide⟩
theorem mv_X11_readsStile : MokV mX11_readsStile := ⟨tb7 (List.mem_of_getElem? (i := 126) (by decide +kernel)), ps5 (n := 60) (List.mem_of_getElem? (i := 3) (by decide +kernel))⟩
theorem mo_X11_line : Mok mX11_line 0 := ⟨tb7 (List.mem_of_getElem? (i := 96) (rfl)), tb1 (List.mem_of_getElem? (i := 12) (by decide +kernel)), by decide +kernel, by decide +kernel, by decide +kernel, by decide⟩
theorem mv_X11_line : MokV mX11_line := ⟨tb7 (List.mem_of_getElem? (i := 95) (by decide +kernel)), ps4 (n := 60) (List.mem_of_getElem? (i := 13) (by decide +kernel))⟩
theorem mo_X11_cellar : Mok mX11_cellar 1 := ⟨tb7 (List.mem_of_getElem? (i := 70) (rfl)), tb1 (List.mem_of_getElem? (i := 12) (by decide +kernel)), by decide +kernel, by decide +kernel, by decide +kernel, by decide⟩
theorem mv_X11_cellar : MokV mX11_cellar := ⟨tb7 (List.mem_of_getElem? (i := 68) (by decide +kernel)), tb7 (List.mem_of_getElem? (i := 69) (by decide +kernel))⟩
theorem mo_X11_placeOf : Mok mX11_placeOf 1 := ⟨tb8 (List.mem_of_getElem? (i := 49) (rfl)), tb1 (List.mem_of_getElem? (i := 12) (by decide +kernel)), by decide +kernel, by decide +kernel, by decide +kernel, by decide⟩
theorem mv_X11_placeOf : MokV mX11_placeOf := ⟨tb8 (List.mem_of_getElem? (i := 48) (by decide +kernel)), ps7 (n := 60) (List.mem_of_getElem? (i := 1) (by decide +kernel))⟩
theorem mo_X11_clear : Mok mX11_clear 1 := ⟨tb8 (List.mem_of_getElem? (i := 147) (rfl)), tb1 (List.mem_of_getElem? (i := 12) (by decide +kernel)), by decide +kernel, by decide +kernel, by decide +kernel, by decide⟩
theorem mv_X11_clear : MokV mX11_clear := ⟨tb8 (List.mem_of_getElem? (i := 145) (by decide +kernel)), tb8 (List.mem_of_getElem? (i := 146) (by decide +kernel))⟩
theorem mo_X11_comes : Mok mX11_comes 1 := ⟨tb8 (List.mem_of_getElem? (i := 131) (rfl)), tb1 (List.mem_of_getElem? (i := 12) (by decide +kernel)), by decide +kernel, by decide +kernel, by decide +kernel, by decide⟩
theorem mv_X11_comes : MokV mX11_comes := ⟨tb8 (List.mem_of_getElem? (i := 129) (by decide +kernel)), tb8 (List.mem_of_getElem? (i := 130) (by decide +kernel))⟩
theorem mo_X11_inked : Mok mX11_inked 1 := ⟨tb7 (List.mem_of_getElem? (i := 239) (rfl)), tb1 (List.mem_of_getElem? (i := 12) (by decide +kernel)), by decide +kernel, by decide +kernel, by decide +kernel, by decide⟩
theorem mv_X11_inked : MokV mX11_inked := ⟨tb7 (List.mem_of_getElem? (i := 238) (by decide +kernel)), ps6 (n := 60) (List.mem_of_getElem? (i := 9) (by decide +kernel))⟩
theorem mo_X11_metAll : Mok mX11_metAll 1 := ⟨tb8 (List.mem_of_getElem? (i := 7) (rfl)), tb1 (List.mem_of_getElem? (i := 12) (by decide +kernel)), by decide +kernel, by decide +kernel, by decide +kernel, by decide⟩
theorem mv_X11_metAll : MokV mX11_metAll := ⟨tb8 (List.mem_of_getElem? (i := 6) (by decide +kernel)), ps6 (n := 60) (List.mem_of_getElem? (i := 11) (by decide +kernel))⟩
theorem mo_X11_parts : Mok mX11_parts 0 := ⟨tb7 (List.mem_of_getElem? (i := 215) (rfl)), tb1 (List.mem_of_getElem? (i := 12) (by decide +kernel)), by decide +kernel, by decide +kernel, by decide +kernel, by decide⟩
theorem mv_X11_parts : MokV mX11_parts := ⟨tb7 (List.mem_of_getElem? (i := 214) (by decide +kernel)), ps6 (n := 60) (List.mem_of_getElem? (i := 3) (by decide +kernel))⟩
theorem mo_X11_sentOnes : Mok mX11_sentOnes 0 := ⟨tb8 (List.mem_of_getElem? (i := 3) (rfl)), tb1 (List.mem_of_getElem? (i := 12) (by decide +kernel)), by decide +kernel, by decide +kernel, by decide +kernel, by decide⟩
theorem mv_X11_sentOnes : MokV mX11_sentOnes := ⟨tb8 (List.mem_of_getElem? (i := 2) (by decide +kernel)), ps6 (n := 60) (List.mem_of_getElem? (i := 10) (by decide +kernel))⟩
theorem mo_X11_stiles : Mok mX11_stiles 0 := ⟨tb7 (List.mem_of_getElem? (i := 235) (rfl)), tb1 (List.mem_of_getElem? (i := 12) (by decide +kernel)), by decide +kernel, by decide +kernel, by decide +kernel, by decide⟩
theorem mv_X11_stiles : MokV mX11_stiles := ⟨tb7 (List.mem_of_getElem? (i := 234) (by decide +kernel)), ps6 (n := 60) (List.mem_of_getElem? (i := 8) (by decide +kernel))⟩
theorem mo_X11_count : Mok mX11_count 1 := ⟨tb7 (List.mem_of_getElem? (i := 208) (rfl)), tb1 (List.mem_of_getElem? (i := 12) (by decide +kernel)), by decide +kernel, by decide +kernel, by decide +kernel, by decide⟩
theorem mv_X11_count : MokV mX11_count := ⟨tb7 (List.mem_of_getElem? (i := 206) (by decide +kernel)), tb7 (List.mem_of_getElem? (i := 207) (by decide +kernel))⟩
theorem mo_X11_crowdAt : Mok mX11_crowdAt 0 := ⟨tb8 (List.mem_of_getElem? (i := 143) (rfl)), tb1 (List.mem_of_getElem? (i := 12) (by decide +kernel)), by decide +kernel, by decide +kernel, by decide +kernel, by decide⟩
theorem mv_X11_crowdAt : MokV mX11_crowdAt := ⟨tb8 (List.mem_of_getElem? (i := 142) (by decide +kernel)), ps7 (n := 60) (List.mem_of_getElem? (i := 14) (by decide +kernel))⟩
theorem mo_X11_keeps : Mok mX11_keeps 0 := ⟨tb8 (List.mem_of_getElem? (i := 61) (rfl)), tb1 (List.mem_of_getElem? (i := 12) (by decide +kernel)), by decide +kernel, by decide +kernel, by decide +kernel, by decide⟩
theorem mv_X11_keeps : MokV mX11_keeps := ⟨tb8 (List.mem_of_getElem? (i := 60) (by decide +kernel)), ps7 (n := 60) (List.mem_of_getElem? (i := 3) (by decide +kernel))⟩
theorem mo_X11_refuses : Mok mX11_refuses 1 := ⟨tb8 (List.mem_of_getElem? (i := 57) (rfl)), tb1 (List.mem_of_getElem? (i := 12) (by decide +kernel)), by decide +kernel, by decide +kernel, by decide +kernel, by decide⟩
theorem mv_X11_refuses : MokV mX11_refuses := ⟨tb8 (List.mem_of_getElem? (i := 56) (by decide +kernel)), ps7 (n := 60) (List.mem_of_getElem? (i := 2) (by decide +kernel))⟩
theorem mo_X11_days : Mok mX11_days 1 := ⟨tb8 (List.mem_of_getElem? (i := 53) (rfl)), tb1 (List.mem_of_getElem? (i := 12) (by decide +kernel)), by decide +kernel, by decide +kernel, by decide +kernel, by decide⟩
theorem mv_X11_days : MokV mX11_days := ⟨tb8 (List.mem_of_getElem? (i := 51) (by decide +kernel)), tb8 (List.mem_of_getElem? (i := 52) (by decide +kernel))⟩
theorem mo_X11_daysGo : Mok mX11_daysGo 1 := ⟨tb8 (List.mem_of_getElem? (i := 127) (rfl)), tb1 (List.mem_of_getElem? (i := 12) (by decide +kernel)), by decide +kernel, by decide +kernel, by decide +kernel, by decide⟩
theorem mv_X11_daysGo : MokV mX11_daysGo := ⟨tb8 (List.mem_of_getElem? (i := 126) (by decide +kernel)), ps7 (n := 60) (List.mem_of_getElem? (i := 13) (by decide +kernel))⟩
theorem mo_X11_isDeed : Mok mX11_isDeed 1 := ⟨tb8 (List.mem_of_getElem? (i := 15) (rfl)), tb1 (List.mem_of_getElem? (i := 12) (by decide +kernel)), by decide +kernel, by decide +kernel, by decide +kernel, by decide⟩
theorem mv_X11_isDeed : MokV mX11_isDeed := ⟨tb8 (List.mem_of_getElem? (i := 14) (by decide +kernel)), ps6 (n := 60) (List.mem_of_getElem? (i := 12) (by decide +kernel))⟩
theorem mo_X11_deed : Mok mX11_deed 2 := ⟨tb8 (List.mem_of_getElem? (i := 11) (rfl)), tb1 (List.mem_of_getElem? (i := 12) (by decide +kernel)), by decide +kernel, by decide +kernel, by decide +kernel, by decide⟩
theorem mv_X11_deed : MokV mX11_deed := ⟨tb8 (List.mem_of_getElem? (i := 9) (by decide +kernel)), tb8 (List.mem_of_getElem? (i := 10) (by decide +kernel))⟩
theorem mo_X11_draw : Mok mX11_draw 1 := ⟨tb9 (List.mem_of_getElem? (i := 15) (rfl)), tb1 (List.mem_of_getElem? (i := 12) (by decide +kernel)), by decide +kernel, by decide +kernel, by decide +kernel, by decide⟩
theorem mv_X11_draw : MokV mX11_draw := ⟨tb9 (List.mem_of_getElem? (i := 14) (by decide +kernel)), ps8 (n := 60) (List.mem_of_getElem? (i := 8) (by decide +kernel))⟩
theorem mo_X11_drawPlace : Mok mX11_drawPlace 0 := ⟨tb9 (List.mem_of_getElem? (i := 20) (rfl)), tb1 (List.mem_of_getElem? (i := 12) (by decide +kernel)), by decide +kernel, by decide +kernel, by decide +kernel, by decide⟩
theorem mv_X11_drawPlace : MokV mX11_drawPlace := ⟨tb9 (List.mem_of_getElem? (i := 19) (by decide +kernel)), ps8 (n := 60) (List.mem_of_getElem? (i := 9) (by decide +kernel))⟩
theorem mo_X11_takes : Mok mX11_takes 3 := ⟨tb8 (List.mem_of_getElem? (i := 203) (rfl)), tb1 (List.mem_of_getElem? (i := 12) (by decide +kernel)), by decide +kernel, by decide +kernel, by decide +kernel, by decide⟩
theorem mv_X11_takes : MokV mX11_takes := ⟨tb8 (List.mem_of_getElem? (i := 202) (by decide +kernel)), ps8 (n := 60) (List.mem_of_getElem? (i := 3) (by decide +kernel))⟩
theorem mo_X11_laysErrands : Mok mX11_laysErrands 0 := ⟨tb8 (List.mem_of_getElem? (i := 195) (rfl)), tb1 (List.mem_of_getElem? (i := 12) (by decide +kernel)), by decide +kernel, by decide +kernel, by decide +kernel, by decide⟩
theorem mv_X11_laysErrands : MokV mX11_laysErrands := ⟨tb8 (List.mem_of_getElem? (i := 194) (by decide +kernel)), ps8 (n := 60) (List.mem_of_getElem? (i := 1) (by decide +kernel))⟩
theorem mo_X11_errand : Mok mX11_errand 1 := ⟨tb8 (List.mem_of_getElem? (i := 207) (rfl)), tb1 (List.mem_of_getElem? (i := 12) (by decide +kernel)), by decide +kernel, by decide +kernel, by decide +kernel, by decide⟩
theorem mv_X11_errand : MokV mX11_errand := ⟨tb8 (List.mem_of_getElem? (i := 205) (by decide +kernel)), tb8 (List.mem_of_getElem? (i := 206) (by decide +kernel))⟩
theorem mo_X11_errands : Mok mX11_errands 1 := ⟨tb8 (List.mem_of_getElem? (i := 191) (rfl)), tb1 (List.mem_of_getElem? (i := 12) (by decide +kernel)), by decide +kernel, by decide +kernel, by decide +kernel, by decide⟩
theorem mv_X11_errands : MokV mX11_errands := ⟨tb8 (List.mem_of_getElem? (i := 189) (by decide +kernel)), tb8 (List.mem_of_getElem? (i := 190) (by decide +kernel))⟩
theorem mo_X11_howFar : Mok mX11_howFar 2 := ⟨tb8 (List.mem_of_getElem? (i := 34) (rfl)), tb1 (List.mem_of_getElem? (i := 12) (by decide +kernel)), by decide +kernel, by decide +kernel, by decide +kernel, by decide⟩
theorem mv_X11_howFar : MokV mX11_howFar := ⟨tb8 (List.mem_of_getElem? (i := 33) (by decide +kernel)), ps6 (n := 60) (List.mem_of_getElem? (i := 15) (by decide +kernel))⟩
theorem mo_X11_farthest : Mok mX11_farthest 2 := ⟨tb8 (List.mem_of_getElem? (i := 179) (rfl)), tb1 (List.mem_of_getElem? (i := 12) (by decide +kernel)), by decide +kernel, by decide +kernel, by decide +kernel, by decide⟩
theorem mv_X11_farthest : MokV mX11_farthest := ⟨tb8 (List.mem_of_getElem? (i := 177) (by decide +kernel)), tb8 (List.mem_of_getElem? (i := 178) (by decide +kernel))⟩
theorem mo_X11_fault : Mok mX11_fault 0 := ⟨tb7 (List.mem_of_getElem? (i := 200) (rfl)), tb1 (List.mem_of_getElem? (i := 12) (by decide +kernel)), by decide +kernel, by decide +kernel, by decide +kernel, by decide⟩
theorem mv_X11_fault : MokV mX11_fault := ⟨tb7 (List.mem_of_getElem? (i := 198) (by decide +kernel)), tb7 (List.mem_of_getElem? (i := 199) (by decide +kernel))⟩
theorem mo_X11_lays : Mok mX11_lays 1 := ⟨tb7 (List.mem_of_getElem? (i := 66) (rfl)), tb1 (List.mem_of_getElem? (i := 12) (by decide +kernel)), by decide +kernel, by decide +kernel, by decide +kernel, by decide⟩
theorem mv_X11_lays : MokV mX11_lays := ⟨tb7 (List.mem_of_getElem? (i := 65) (by decide +kernel)), ps4 (n := 60) (List.mem_of_getElem? (i := 8) (by decide +kernel))⟩
theorem mo_X11_feed : Mok mX11_feed 5 := ⟨tb7 (List.mem_of_getElem? (i := 62) (rfl)), tb1 (List.mem_of_getElem? (i := 12) (by decide +kernel)), by decide +kernel, by decide +kernel, by decide +kernel, by decide⟩
theorem mv_X11_feed : MokV mX11_feed := ⟨tb7 (List.mem_of_getElem? (i := 60) (by decide +kernel)), tb7 (List.mem_of_getElem? (i := 61) (by decide +kernel))⟩
theorem mo_X11_forget : Mok mX11_forget 0 := ⟨tb8 (List.mem_of_getElem? (i := 215) (rfl)), tb1 (List.mem_of_getElem? (i := 12) (by decide +kernel)), by decide +kernel, by decide +kernel, by decide +kernel, by decide⟩
theorem mv_X11_forget : MokV mX11_forget := ⟨tb8 (List.mem_of_getElem? (i := 213) (by decide +kernel)), tb8 (List.mem_of_getElem? (i := 214) (by decide +kernel))⟩
theorem mo_X11_gains : Mok mX11_gains 4 := ⟨tb9 (List.mem_of_getElem? (i := 3) (rfl)), tb1 (List.mem_of_getElem? (i := 12) (by decide +kernel)), by decide +kernel, by decide +kernel, by decide +kernel, by decide⟩
theorem mv_X11_gains : MokV mX11_gains := ⟨tb9 (List.mem_of_getElem? (i := 2) (by decide +kernel)), ps8 (n := 60) (List.mem_of_getElem? (i := 6) (by decide +kernel))⟩
theorem mo_X11_game : Mok mX11_game 3 := ⟨tb8 (List.mem_of_getElem? (i := 239) (rfl)), tb1 (List.mem_of_getElem? (i := 12) (by decide +kernel)), by decide +kernel, by decide +kernel, by decide +kernel, by decide⟩
theorem mv_X11_game : MokV mX11_game := ⟨tb8 (List.mem_of_getElem? (i := 237) (by decide +kernel)), tb8 (List.mem_of_getElem? (i := 238) (by decide +kernel))⟩
theorem mo_X11_gather : Mok mX11_gather 1 := ⟨tb8 (List.mem_of_getElem? (i := 187) (rfl)), tb1 (List.mem_of_getElem? (i := 12) (by decide +kernel)), by decide +kernel, by decide +kernel, by decide +kernel, by decide⟩
theorem mv_X11_gather : MokV mX11_gather := ⟨tb8 (List.mem_of_getElem? (i := 185) (by decide +kernel)), tb8 (List.mem_of_getElem? (i := 186) (by decide +kernel))⟩
theorem mo_X11_goesTo : Mok mX11_goesTo 1 := ⟨tb8 (List.mem_of_getElem? (i := 119) (rfl)), tb1 (List.mem_of_getElem? (i := 12) (by decide +kernel)), by decide +kernel, by decide +kernel, by decide +kernel, by decide⟩
theorem mv_X11_goesTo : MokV mX11_goesTo := ⟨tb8 (List.mem_of_getElem? (i := 118) (by decide +kernel)), ps7 (n := 60) (List.mem_of_getElem? (i := 11) (by decide +kernel))⟩
theorem mo_X11_gone : Mok mX11_gone 2 := ⟨tb8 (List.mem_of_getElem? (i := 155) (rfl)), tb1 (List.mem_of_getElem? (i := 12) (by decide +kernel)), by decide +kernel, by decide +kernel, by decide +kernel, by decide⟩
theorem mv_X11_gone : MokV mX11_gone := ⟨tb8 (List.mem_of_getElem? (i := 153) (by decide +kernel)), tb8 (List.mem_of_getElem? (i := 154) (by decide +kernel))⟩
theorem mo_X11_happens : Mok mX11_happens 0 := ⟨tb9 (List.mem_of_getElem? (i := 11) (rfl)), tb1 (List.mem_of_getElem? (i := 12) (by decide +kernel)), by decide +kernel, by decide +kernel, by decide +kernel, by decide⟩
theorem mv_X11_happens : MokV mX11_happens := ⟨tb9 (List.mem_of_getElem? (i := 10) (by decide +kernel)), ps8 (n := 60) (List.mem_of_getElem? (i := 7) (by decide +kernel))⟩
theorem mo_X11_image : Mok mX11_image 0 := ⟨tb9 (List.mem_of_getElem? (i := 27) (rfl)), tb1 (List.mem_of_getElem? (i := 12) (by decide +kernel)), by decide +kernel, by decide +kernel, by decide +kernel, by decide⟩
theorem mv_X11_image : MokV mX11_image := ⟨tb9 (List.mem_of_getElem? (i := 25) (by decide +kernel)), tb9 (List.mem_of_getElem? (i := 26) (by decide +kernel))⟩
theorem mo_X11_init : Mok mX11_init 0 := ⟨tb6 (List.mem_of_getElem? (i := 111) (rfl)), tb1 (List.mem_of_getElem? (i := 12) (by decide +kernel)), by decide +kernel, by decide +kernel, by decide +kernel, by decide⟩
theorem mi_X11_init : Cond.instanceMethod yX11_init ∈ lw_tbl := tb6 (List.mem_of_getElem? (i := 110) (by decide +kernel))
theorem mo_X11_ink : Mok mX11_ink 1 := ⟨tb8 (List.mem_of_getElem? (i := 45) (rfl)), tb1 (List.mem_of_getElem? (i := 12) (by decide +kernel)), by decide +kernel, by decide +kernel, by decide +kernel, by decide⟩
theorem mv_X11_ink : MokV mX11_ink := ⟨tb8 (List.mem_of_getElem? (i := 43) (by decide +kernel)), tb8 (List.mem_of_getElem? (i := 44) (by decide +kernel))⟩
theorem mo_X11_isSeen : Mok mX11_isSeen 0 := ⟨tb8 (List.mem_of_getElem? (i := 223) (rfl)), tb1 (List.mem_of_getElem? (i := 12) (by decide +kernel)), by decide +kernel, by decide +kernel, by decide +kernel, by decide⟩
theorem mv_X11_isSeen : MokV mX11_isSeen := ⟨tb8 (List.mem_of_getElem? (i := 222) (by decide +kernel)), ps8 (n := 60) (List.mem_of_getElem? (i := 4) (by decide +kernel))⟩
theorem mo_X11_isGuess : Mok mX11_isGuess 1 := ⟨tb8 (List.mem_of_getElem? (i := 227) (rfl)), tb1 (List.mem_of_getElem? (i := 12) (by decide +kernel)), by decide +kernel, by decide +kernel, by decide +kernel, by decide⟩
theorem mv_X11_isGuess : MokV mX11_isGuess := ⟨tb8 (List.mem_of_getElem? (i := 226) (by decide +kernel)), ps8 (n := 60) (List.mem_of_getElem? (i := 5) (by decide +kernel))⟩
theorem mo_X11_later : Mok mX11_later 2 := ⟨tb8 (List.mem_of_getElem? (i := 139) (rfl)), tb1 (List.mem_of_getElem? (i := 12) (by decide +kernel)), by decide +kernel, by decide +kernel, by decide +kernel, by decide⟩
theorem mv_X11_later : MokV mX11_later := ⟨tb8 (List.mem_of_getElem? (i := 137) (by decide +kernel)), tb8 (List.mem_of_getElem? (i := 138) (by decide +kernel))⟩
theorem mo_X11_let : Mok mX11_let 2 := ⟨tb8 (List.mem_of_getElem? (i := 107) (rfl)), tb1 (List.mem_of_getElem? (i := 12) (by decide +kernel)), by decide +kernel, by decide +kernel, by decide +kernel, by decide⟩
theorem mv_X11_let : MokV mX11_let := ⟨tb8 (List.mem_of_getElem? (i := 105) (by decide +kernel)), tb8 (List.mem_of_getElem? (i := 106) (by decide +kernel))⟩
theorem mo_X11_look : Mok mX11_look 1 := ⟨tb8 (List.mem_of_getElem? (i := 231) (rfl)), tb1 (List.mem_of_getElem? (i := 12) (by decide +kernel)), by decide +kernel, by decide +kernel, by decide +kernel, by decide⟩
theorem mv_X11_look : MokV mX11_look := ⟨tb8 (List.mem_of_getElem? (i := 229) (by decide +kernel)), tb8 (List.mem_of_getElem? (i := 230) (by decide +kernel))⟩
theorem mo_X11_meet : Mok mX11_meet 2 := ⟨tb8 (List.mem_of_getElem? (i := 135) (rfl)), tb1 (List.mem_of_getElem? (i := 12) (by decide +kernel)), by decide +kernel, by decide +kernel, by decide +kernel, by decide⟩
theorem mv_X11_meet : MokV mX11_meet := ⟨tb8 (List.mem_of_getElem? (i := 133) (by decide +kernel)), tb8 (List.mem_of_getElem? (i := 134) (by decide +kernel))⟩
theorem mo_X11_near : Mok mX11_near 1 := ⟨tb8 (List.mem_of_getElem? (i := 183) (rfl)), tb1 (List.mem_of_getElem? (i := 12) (by decide +kernel)), by decide +kernel, by decide +kernel, by decide +kernel, by decide⟩
theorem mv_X11_near : MokV mX11_near := ⟨tb8 (List.mem_of_getElem? (i := 181) (by decide +kernel)), tb8 (List.mem_of_getElem? (i := 182) (by decide +kernel))⟩
theorem mo_X11_needed : Mok mX11_needed 2 := ⟨tb8 (List.mem_of_getElem? (i := 167) (rfl)), tb1 (List.mem_of_getElem? (i := 12) (by decide +kernel)), by decide +kernel, by decide +kernel, by decide +kernel, by decide⟩
theorem mv_X11_needed : MokV mX11_needed := ⟨tb8 (List.mem_of_getElem? (i := 166) (by decide +kernel)), ps8 (n := 60) (List.mem_of_getElem? (i := 0) (by decide +kernel))⟩
theorem mo_X11_orNone : Mok mX11_orNone 1 := ⟨tb8 (List.mem_of_getElem? (i := 37) (rfl)), tb1 (List.mem_of_getElem? (i := 12) (by decide +kernel)), by decide +kernel, by decide +kernel, by decide +kernel, by decide⟩
theorem ms_X11_orNone : Cond.static yX11_orNone ∈ lw_tbl := tb8 (List.mem_of_getElem? (i := 36) (by decide +kernel))
theorem mo_X11_person : Mok mX11_person 2 := ⟨tb8 (List.mem_of_getElem? (i := 23) (rfl)), tb1 (List.mem_of_getElem? (i := 12) (by decide +kernel)), by decide +kernel, by decide +kernel, by decide +kernel, by decide⟩
theorem mv_X11_person : MokV mX11_person := ⟨tb8 (List.mem_of_getElem? (i := 21) (by decide +kernel)), tb8 (List.mem_of_getElem? (i := 22) (by decide +kernel))⟩
theorem mo_X11_quick : Mok mX11_quick 1 := ⟨tb8 (List.mem_of_getElem? (i := 219) (rfl)), tb1 (List.mem_of_getElem? (i := 12) (by decide +kernel)), by decide +kernel, by decide +kernel, by decide +kernel, by decide⟩
theorem mv_X11_quick : MokV mX11_quick := ⟨tb8 (List.mem_of_getElem? (i := 217) (by decide +kernel)), tb8 (List.mem_of_getElem? (i := 218) (by decide +kernel))⟩
theorem mo_X11_reached : Mok mX11_reached 2 := ⟨tb8 (List.mem_of_getElem? (i := 175) (rfl)), tb1 (List.mem_of_getElem? (i := 12) (by decide +kernel)), by decide +kernel, by decide +kernel, by decide +kernel, by decide⟩
theorem mv_X11_reached : MokV mX11_reached := ⟨tb8 (List.mem_of_getElem? (i := 173) (by decide +kernel)), tb8 (List.mem_of_getElem? (i := 174) (by decide +kernel))⟩
theorem mo_X11_restore : Mok mX11_restore 0 := ⟨tb9 (List.mem_of_getElem? (i := 31) (rfl)), tb1 (List.mem_of_getElem? (i := 12) (by decide +kernel)), by decide +kernel, by decide +kernel, by decide +kernel, by decide⟩
theorem mv_X11_restore : MokV mX11_restore := ⟨tb9 (List.mem_of_getElem? (i := 29) (by decide +kernel)), tb9 (List.mem_of_getElem? (i := 30) (by decide +kernel))⟩
theorem mo_X11_see : Mok mX11_see 3 := ⟨tb8 (List.mem_of_getElem? (i := 211) (rfl)), tb1 (List.mem_of_getElem? (i := 12) (by decide +kernel)), by decide +kernel, by decide +kernel, by decide +kernel, by decide⟩
theorem mv_X11_see : MokV mX11_see := ⟨tb8 (List.mem_of_getElem? (i := 209) (by decide +kernel)), tb8 (List.mem_of_getElem? (i := 210) (by decide +kernel))⟩
theorem mo_X11_send : Mok mX11_send 2 := ⟨tb8 (List.mem_of_getElem? (i := 103) (rfl)), tb1 (List.mem_of_getElem? (i := 12) (by decide +kernel)), by decide +kernel, by decide +kernel, by decide +kernel, by decide⟩
theorem mv_X11_send : MokV mX11_send := ⟨tb8 (List.mem_of_getElem? (i := 101) (by decide +kernel)), tb8 (List.mem_of_getElem? (i := 102) (by decide +kernel))⟩
theorem mo_X11_stile : Mok mX11_stile 2 := ⟨tb8 (List.mem_of_getElem? (i := 99) (rfl)), tb1 (List.mem_of_getElem? (i := 12) (by decide +kernel)), by decide +kernel, by decide +kernel, by decide +kernel, by decide⟩
theorem mv_X11_stile : MokV mX11_stile := ⟨tb8 (List.mem_of_getElem? (i := 97) (by decide +kernel)), tb8 (List.mem_of_getElem? (i := 98) (by decide +kernel))⟩
theorem mo_X11_then : Mok mX11_then 3 := ⟨tb8 (List.mem_of_getElem? (i := 111) (rfl)), tb1 (List.mem_of_getElem? (i := 12) (by decide +kernel)), by decide +kernel, by decide +kernel, by decide +kernel, by decide⟩
theorem mv_X11_then : MokV mX11_then := ⟨tb8 (List.mem_of_getElem? (i := 109) (by decide +kernel)), tb8 (List.mem_of_getElem? (i := 110) (by decide +kernel))⟩
theorem mo_X11_thrown : Mok mX11_thrown 0 := ⟨tb7 (List.mem_of_getElem? (i := 58) (rfl)), tb1 (List.mem_of_getElem? (i := 12) (by decide +kernel)), by decide +kernel, by decide +kernel, by decide +kernel, by decide⟩
theorem mv_X11_thrown : MokV mX11_thrown := ⟨tb7 (List.mem_of_getElem? (i := 56) (by decide +kernel)), tb7 (List.mem_of_getElem? (i := 57) (by decide +kernel))⟩
theorem mo_X11_toClear : Mok mX11_toClear 2 := ⟨tb8 (List.mem_of_getElem? (i := 163) (rfl)), tb1 (List.mem_of_getElem? (i := 12) (by decide +kernel)), by decide +kernel, by decide +kernel, by decide +kernel, by decide⟩
theorem mv_X11_toClear : MokV mX11_toClear := ⟨tb8 (List.mem_of_getElem? (i := 162) (by decide +kernel)), ps7 (n := 60) (List.mem_of_getElem? (i := 15) (by decide +kernel))⟩
theorem mo_X11_type : Mok mX11_type 2 := ⟨tb8 (List.mem_of_getElem? (i := 95) (rfl)), tb1 (List.mem_of_getElem? (i := 12) (by decide +kernel)), by decide +kernel, by decide +kernel, by decide +kernel, by decide⟩
theorem mv_X11_type : MokV mX11_type := ⟨tb8 (List.mem_of_getElem? (i := 93) (by decide +kernel)), tb8 (List.mem_of_getElem? (i := 94) (by decide +kernel))⟩
theorem mo_X11_undo : Mok mX11_undo 0 := ⟨tb7 (List.mem_of_getElem? (i := 204) (rfl)), tb1 (List.mem_of_getElem? (i := 12) (by decide +kernel)), by decide +kernel, by decide +kernel, by decide +kernel, by decide⟩
theorem mv_X11_undo : MokV mX11_undo := ⟨tb7 (List.mem_of_getElem? (i := 202) (by decide +kernel)), tb7 (List.mem_of_getElem? (i := 203) (by decide +kernel))⟩
theorem mo_X11_way : Mok mX11_way 3 := ⟨tb8 (List.mem_of_getElem? (i := 159) (rfl)), tb1 (List.mem_of_getElem? (i := 12) (by decide +kernel)), by decide +kernel, by decide +kernel, by decide +kernel, by decide⟩
theorem mv_X11_way : MokV mX11_way := ⟨tb8 (List.mem_of_getElem? (i := 157) (by decide +kernel)), tb8 (List.mem_of_getElem? (i := 158) (by decide +kernel))⟩
theorem mo_X11_ways : Mok mX11_ways 2 := ⟨tb8 (List.mem_of_getElem? (i := 171) (rfl)), tb1 (List.mem_of_getElem? (i := 12) (by decide +kernel)), by decide +kernel, by decide +kernel, by decide +kernel, by decide⟩
theorem mv_X11_ways : MokV mX11_ways := ⟨tb8 (List.mem_of_getElem? (i := 169) (by decide +kernel)), tb8 (List.mem_of_getElem? (i := 170) (by decide +kernel))⟩
theorem mo_X11_years : Mok mX11_years 3 := ⟨tb9 (List.mem_of_getElem? (i := 7) (rfl)), tb1 (List.mem_of_getElem? (i := 12) (by decide +kernel)), by decide +kernel, by decide +kernel, by decide +kernel, by decide⟩
theorem mv_X11_years : MokV mX11_years := ⟨tb9 (List.mem_of_getElem? (i := 5) (by decide +kernel)), tb9 (List.mem_of_getElem? (i := 6) (by decide +kernel))⟩
theorem mo_J0_checkIndex_df160 : Mok mJ0_checkIndex_df160 2 := ⟨tb4 (List.mem_of_getElem? (i := 44) (rfl)), tb1 (List.mem_of_getElem? (i := 18) (by decide +kernel)), by decide +kernel, by decide +kernel, by decide +kernel, by decide⟩
theorem ms_J0_checkIndex_df160 : Cond.static yJ0_checkIndex_df160 ∈ lw_tbl := tb4 (List.mem_of_getElem? (i := 43) (by decide +kernel))
theorem mo_J3_checkIndex_8e157 : Mok mJ3_checkIndex_8e157 3 := ⟨tb4 (List.mem_of_getElem? (i := 47) (rfl)), tb1 (List.mem_of_getElem? (i := 21) (by decide +kernel)), by decide +kernel, by decide +kernel, by decide +kernel, by decide⟩
theorem ms_J3_checkIndex_8e157 : Cond.static yJ3_checkIndex_8e157 ∈ lw_tbl := tb4 (List.mem_of_getElem? (i := 46) (by decide +kernel))
