/-! PRINTED (wip/gen/cells.py): reading and writing in the arrays -/
theorem kd_1 : kd 1 = (0, 700) := by decide +kernel
theorem ld_1 {μ : Mem} {n : Nat} (h : n < 700) : ldI μ 1 (I n) = some (μ.2.1 1 n) := ldI_I kd_1 h (by decide)
theorem st_1 {μ : Mem} {n : Nat} {x : Int32} (h : n < 700) : stI μ 1 (I n) x = some (sC μ 1 (up (μ.2.1 1) n x)) := stI_I kd_1 h (by decide)
theorem kd_2 : kd 2 = (0, 3) := by decide +kernel
theorem ld_2 {μ : Mem} {n : Nat} (h : n < 3) : ldI μ 2 (I n) = some (μ.2.1 2 n) := ldI_I kd_2 h (by decide)
theorem st_2 {μ : Mem} {n : Nat} {x : Int32} (h : n < 3) : stI μ 2 (I n) x = some (sC μ 2 (up (μ.2.1 2) n x)) := stI_I kd_2 h (by decide)
theorem kd_4 : kd 4 = (0, 6) := by decide +kernel
theorem ld_4 {μ : Mem} {n : Nat} (h : n < 6) : ldI μ 4 (I n) = some (μ.2.1 4 n) := ldI_I kd_4 h (by decide)
theorem st_4 {μ : Mem} {n : Nat} {x : Int32} (h : n < 6) : stI μ 4 (I n) x = some (sC μ 4 (up (μ.2.1 4) n x)) := stI_I kd_4 h (by decide)
theorem kd_5 : kd 5 = (0, 6) := by decide +kernel
theorem ld_5 {μ : Mem} {n : Nat} (h : n < 6) : ldI μ 5 (I n) = some (μ.2.1 5 n) := ldI_I kd_5 h (by decide)
theorem st_5 {μ : Mem} {n : Nat} {x : Int32} (h : n < 6) : stI μ 5 (I n) x = some (sC μ 5 (up (μ.2.1 5) n x)) := stI_I kd_5 h (by decide)
theorem kd_7 : kd 7 = (0, 700) := by decide +kernel
theorem ld_7 {μ : Mem} {n : Nat} (h : n < 700) : ldI μ 7 (I n) = some (μ.2.1 7 n) := ldI_I kd_7 h (by decide)
theorem st_7 {μ : Mem} {n : Nat} {x : Int32} (h : n < 700) : stI μ 7 (I n) x = some (sC μ 7 (up (μ.2.1 7) n x)) := stI_I kd_7 h (by decide)
theorem kd_8 : kd 8 = (0, 64) := by decide +kernel
theorem ld_8 {μ : Mem} {n : Nat} (h : n < 64) : ldI μ 8 (I n) = some (μ.2.1 8 n) := ldI_I kd_8 h (by decide)
theorem st_8 {μ : Mem} {n : Nat} {x : Int32} (h : n < 64) : stI μ 8 (I n) x = some (sC μ 8 (up (μ.2.1 8) n x)) := stI_I kd_8 h (by decide)
theorem kd_10 : kd 10 = (0, 700) := by decide +kernel
theorem ld_10 {μ : Mem} {n : Nat} (h : n < 700) : ldI μ 10 (I n) = some (μ.2.1 10 n) := ldI_I kd_10 h (by decide)
theorem st_10 {μ : Mem} {n : Nat} {x : Int32} (h : n < 700) : stI μ 10 (I n) x = some (sC μ 10 (up (μ.2.1 10) n x)) := stI_I kd_10 h (by decide)
theorem kd_11 : kd 11 = (0, 64) := by decide +kernel
theorem ld_11 {μ : Mem} {n : Nat} (h : n < 64) : ldI μ 11 (I n) = some (μ.2.1 11 n) := ldI_I kd_11 h (by decide)
theorem st_11 {μ : Mem} {n : Nat} {x : Int32} (h : n < 64) : stI μ 11 (I n) x = some (sC μ 11 (up (μ.2.1 11) n x)) := stI_I kd_11 h (by decide)
theorem kd_13 : kd 13 = (0, 48) := by decide +kernel
theorem ld_13 {μ : Mem} {n : Nat} (h : n < 48) : ldI μ 13 (I n) = some (μ.2.1 13 n) := ldI_I kd_13 h (by decide)
theorem st_13 {μ : Mem} {n : Nat} {x : Int32} (h : n < 48) : stI μ 13 (I n) x = some (sC μ 13 (up (μ.2.1 13) n x)) := stI_I kd_13 h (by decide)
theorem kd_14 : kd 14 = (0, 6) := by decide +kernel
theorem ld_14 {μ : Mem} {n : Nat} (h : n < 6) : ldI μ 14 (I n) = some (μ.2.1 14 n) := ldI_I kd_14 h (by decide)
theorem st_14 {μ : Mem} {n : Nat} {x : Int32} (h : n < 6) : stI μ 14 (I n) x = some (sC μ 14 (up (μ.2.1 14) n x)) := stI_I kd_14 h (by decide)
theorem kd_15 : kd 15 = (0, 6) := by decide +kernel
theorem ld_15 {μ : Mem} {n : Nat} (h : n < 6) : ldI μ 15 (I n) = some (μ.2.1 15 n) := ldI_I kd_15 h (by decide)
theorem st_15 {μ : Mem} {n : Nat} {x : Int32} (h : n < 6) : stI μ 15 (I n) x = some (sC μ 15 (up (μ.2.1 15) n x)) := stI_I kd_15 h (by decide)
theorem kd_16 : kd 16 = (0, 6) := by decide +kernel
theorem ld_16 {μ : Mem} {n : Nat} (h : n < 6) : ldI μ 16 (I n) = some (μ.2.1 16 n) := ldI_I kd_16 h (by decide)
theorem st_16 {μ : Mem} {n : Nat} {x : Int32} (h : n < 6) : stI μ 16 (I n) x = some (sC μ 16 (up (μ.2.1 16) n x)) := stI_I kd_16 h (by decide)
theorem kd_18 : kd 18 = (0, 6) := by decide +kernel
theorem ld_18 {μ : Mem} {n : Nat} (h : n < 6) : ldI μ 18 (I n) = some (μ.2.1 18 n) := ldI_I kd_18 h (by decide)
theorem st_18 {μ : Mem} {n : Nat} {x : Int32} (h : n < 6) : stI μ 18 (I n) x = some (sC μ 18 (up (μ.2.1 18) n x)) := stI_I kd_18 h (by decide)
theorem kd_19 : kd 19 = (0, 6) := by decide +kernel
theorem ld_19 {μ : Mem} {n : Nat} (h : n < 6) : ldI μ 19 (I n) = some (μ.2.1 19 n) := ldI_I kd_19 h (by decide)
theorem st_19 {μ : Mem} {n : Nat} {x : Int32} (h : n < 6) : stI μ 19 (I n) x = some (sC μ 19 (up (μ.2.1 19) n x)) := stI_I kd_19 h (by decide)
theorem kd_21 : kd 21 = (0, 700) := by decide +kernel
theorem ld_21 {μ : Mem} {n : Nat} (h : n < 700) : ldI μ 21 (I n) = some (μ.2.1 21 n) := ldI_I kd_21 h (by decide)
theorem st_21 {μ : Mem} {n : Nat} {x : Int32} (h : n < 700) : stI μ 21 (I n) x = some (sC μ 21 (up (μ.2.1 21) n x)) := stI_I kd_21 h (by decide)
theorem kd_22 : kd 22 = (0, 64) := by decide +kernel
theorem ld_22 {μ : Mem} {n : Nat} (h : n < 64) : ldI μ 22 (I n) = some (μ.2.1 22 n) := ldI_I kd_22 h (by decide)
theorem st_22 {μ : Mem} {n : Nat} {x : Int32} (h : n < 64) : stI μ 22 (I n) x = some (sC μ 22 (up (μ.2.1 22) n x)) := stI_I kd_22 h (by decide)
theorem kd_24 : kd 24 = (0, 700) := by decide +kernel
theorem ld_24 {μ : Mem} {n : Nat} (h : n < 700) : ldI μ 24 (I n) = some (μ.2.1 24 n) := ldI_I kd_24 h (by decide)
theorem st_24 {μ : Mem} {n : Nat} {x : Int32} (h : n < 700) : stI μ 24 (I n) x = some (sC μ 24 (up (μ.2.1 24) n x)) := stI_I kd_24 h (by decide)
theorem kd_25 : kd 25 = (0, 64) := by decide +kernel
theorem ld_25 {μ : Mem} {n : Nat} (h : n < 64) : ldI μ 25 (I n) = some (μ.2.1 25 n) := ldI_I kd_25 h (by decide)
theorem st_25 {μ : Mem} {n : Nat} {x : Int32} (h : n < 64) : stI μ 25 (I n) x = some (sC μ 25 (up (μ.2.1 25) n x)) := stI_I kd_25 h (by decide)
theorem kd_27 : kd 27 = (0, 48) := by decide +kernel
theorem ld_27 {μ : Mem} {n : Nat} (h : n < 48) : ldI μ 27 (I n) = some (μ.2.1 27 n) := ldI_I kd_27 h (by decide)
theorem st_27 {μ : Mem} {n : Nat} {x : Int32} (h : n < 48) : stI μ 27 (I n) x = some (sC μ 27 (up (μ.2.1 27) n x)) := stI_I kd_27 h (by decide)
theorem kd_28 : kd 28 = (0, 6) := by decide +kernel
theorem ld_28 {μ : Mem} {n : Nat} (h : n < 6) : ldI μ 28 (I n) = some (μ.2.1 28 n) := ldI_I kd_28 h (by decide)
theorem st_28 {μ : Mem} {n : Nat} {x : Int32} (h : n < 6) : stI μ 28 (I n) x = some (sC μ 28 (up (μ.2.1 28) n x)) := stI_I kd_28 h (by decide)
theorem kd_29 : kd 29 = (0, 6) := by decide +kernel
theorem ld_29 {μ : Mem} {n : Nat} (h : n < 6) : ldI μ 29 (I n) = some (μ.2.1 29 n) := ldI_I kd_29 h (by decide)
theorem st_29 {μ : Mem} {n : Nat} {x : Int32} (h : n < 6) : stI μ 29 (I n) x = some (sC μ 29 (up (μ.2.1 29) n x)) := stI_I kd_29 h (by decide)
theorem kd_30 : kd 30 = (0, 6) := by decide +kernel
theorem ld_30 {μ : Mem} {n : Nat} (h : n < 6) : ldI μ 30 (I n) = some (μ.2.1 30 n) := ldI_I kd_30 h (by decide)
theorem st_30 {μ : Mem} {n : Nat} {x : Int32} (h : n < 6) : stI μ 30 (I n) x = some (sC μ 30 (up (μ.2.1 30) n x)) := stI_I kd_30 h (by decide)
theorem kd_34 : kd 34 = (0, 48) := by decide +kernel
theorem ld_34 {μ : Mem} {n : Nat} (h : n < 48) : ldI μ 34 (I n) = some (μ.2.1 34 n) := ldI_I kd_34 h (by decide)
theorem st_34 {μ : Mem} {n : Nat} {x : Int32} (h : n < 48) : stI μ 34 (I n) x = some (sC μ 34 (up (μ.2.1 34) n x)) := stI_I kd_34 h (by decide)
theorem kd_35 : kd 35 = (0, 6) := by decide +kernel
theorem ld_35 {μ : Mem} {n : Nat} (h : n < 6) : ldI μ 35 (I n) = some (μ.2.1 35 n) := ldI_I kd_35 h (by decide)
theorem st_35 {μ : Mem} {n : Nat} {x : Int32} (h : n < 6) : stI μ 35 (I n) x = some (sC μ 35 (up (μ.2.1 35) n x)) := stI_I kd_35 h (by decide)
theorem kd_36 : kd 36 = (0, 6) := by decide +kernel
theorem ld_36 {μ : Mem} {n : Nat} (h : n < 6) : ldI μ 36 (I n) = some (μ.2.1 36 n) := ldI_I kd_36 h (by decide)
theorem st_36 {μ : Mem} {n : Nat} {x : Int32} (h : n < 6) : stI μ 36 (I n) x = some (sC μ 36 (up (μ.2.1 36) n x)) := stI_I kd_36 h (by decide)
theorem kd_37 : kd 37 = (0, 6) := by decide +kernel
theorem ld_37 {μ : Mem} {n : Nat} (h : n < 6) : ldI μ 37 (I n) = some (μ.2.1 37 n) := ldI_I kd_37 h (by decide)
theorem st_37 {μ : Mem} {n : Nat} {x : Int32} (h : n < 6) : stI μ 37 (I n) x = some (sC μ 37 (up (μ.2.1 37) n x)) := stI_I kd_37 h (by decide)
theorem kd_241 : kd 241 = (0, 8) := by decide +kernel
theorem ld_241 {μ : Mem} {n : Nat} (h : n < 8) : ldI μ 241 (I n) = some (μ.2.1 241 n) := ldI_I kd_241 h (by decide)
theorem st_241 {μ : Mem} {n : Nat} {x : Int32} (h : n < 8) : stI μ 241 (I n) x = some (sC μ 241 (up (μ.2.1 241) n x)) := stI_I kd_241 h (by decide)
theorem kd_242 : kd 242 = (0, 8) := by decide +kernel
theorem ld_242 {μ : Mem} {n : Nat} (h : n < 8) : ldI μ 242 (I n) = some (μ.2.1 242 n) := ldI_I kd_242 h (by decide)
theorem st_242 {μ : Mem} {n : Nat} {x : Int32} (h : n < 8) : stI μ 242 (I n) x = some (sC μ 242 (up (μ.2.1 242) n x)) := stI_I kd_242 h (by decide)
theorem kd_243 : kd 243 = (0, 8) := by decide +kernel
theorem ld_243 {μ : Mem} {n : Nat} (h : n < 8) : ldI μ 243 (I n) = some (μ.2.1 243 n) := ldI_I kd_243 h (by decide)
theorem st_243 {μ : Mem} {n : Nat} {x : Int32} (h : n < 8) : stI μ 243 (I n) x = some (sC μ 243 (up (μ.2.1 243) n x)) := stI_I kd_243 h (by decide)
theorem kd_245 : kd 245 = (0, 48) := by decide +kernel
theorem ld_245 {μ : Mem} {n : Nat} (h : n < 48) : ldI μ 245 (I n) = some (μ.2.1 245 n) := ldI_I kd_245 h (by decide)
theorem st_245 {μ : Mem} {n : Nat} {x : Int32} (h : n < 48) : stI μ 245 (I n) x = some (sC μ 245 (up (μ.2.1 245) n x)) := stI_I kd_245 h (by decide)
theorem kd_246 : kd 246 = (0, 6) := by decide +kernel
theorem ld_246 {μ : Mem} {n : Nat} (h : n < 6) : ldI μ 246 (I n) = some (μ.2.1 246 n) := ldI_I kd_246 h (by decide)
theorem st_246 {μ : Mem} {n : Nat} {x : Int32} (h : n < 6) : stI μ 246 (I n) x = some (sC μ 246 (up (μ.2.1 246) n x)) := stI_I kd_246 h (by decide)
theorem kd_247 : kd 247 = (0, 6) := by decide +kernel
theorem ld_247 {μ : Mem} {n : Nat} (h : n < 6) : ldI μ 247 (I n) = some (μ.2.1 247 n) := ldI_I kd_247 h (by decide)
theorem st_247 {μ : Mem} {n : Nat} {x : Int32} (h : n < 6) : stI μ 247 (I n) x = some (sC μ 247 (up (μ.2.1 247) n x)) := stI_I kd_247 h (by decide)
theorem kd_248 : kd 248 = (0, 6) := by decide +kernel
theorem ld_248 {μ : Mem} {n : Nat} (h : n < 6) : ldI μ 248 (I n) = some (μ.2.1 248 n) := ldI_I kd_248 h (by decide)
theorem st_248 {μ : Mem} {n : Nat} {x : Int32} (h : n < 6) : stI μ 248 (I n) x = some (sC μ 248 (up (μ.2.1 248) n x)) := stI_I kd_248 h (by decide)
theorem kd_452 : kd 452 = (0, 8) := by decide +kernel
theorem ld_452 {μ : Mem} {n : Nat} (h : n < 8) : ldI μ 452 (I n) = some (μ.2.1 452 n) := ldI_I kd_452 h (by decide)
theorem st_452 {μ : Mem} {n : Nat} {x : Int32} (h : n < 8) : stI μ 452 (I n) x = some (sC μ 452 (up (μ.2.1 452) n x)) := stI_I kd_452 h (by decide)
theorem kd_453 : kd 453 = (0, 8) := by decide +kernel
theorem ld_453 {μ : Mem} {n : Nat} (h : n < 8) : ldI μ 453 (I n) = some (μ.2.1 453 n) := ldI_I kd_453 h (by decide)
theorem st_453 {μ : Mem} {n : Nat} {x : Int32} (h : n < 8) : stI μ 453 (I n) x = some (sC μ 453 (up (μ.2.1 453) n x)) := stI_I kd_453 h (by decide)
theorem kd_454 : kd 454 = (0, 8) := by decide +kernel
theorem ld_454 {μ : Mem} {n : Nat} (h : n < 8) : ldI μ 454 (I n) = some (μ.2.1 454 n) := ldI_I kd_454 h (by decide)
theorem st_454 {μ : Mem} {n : Nat} {x : Int32} (h : n < 8) : stI μ 454 (I n) x = some (sC μ 454 (up (μ.2.1 454) n x)) := stI_I kd_454 h (by decide)
theorem kd_457 : kd 457 = (0, 48) := by decide +kernel
theorem ld_457 {μ : Mem} {n : Nat} (h : n < 48) : ldI μ 457 (I n) = some (μ.2.1 457 n) := ldI_I kd_457 h (by decide)
theorem st_457 {μ : Mem} {n : Nat} {x : Int32} (h : n < 48) : stI μ 457 (I n) x = some (sC μ 457 (up (μ.2.1 457) n x)) := stI_I kd_457 h (by decide)
theorem kd_458 : kd 458 = (0, 6) := by decide +kernel
theorem ld_458 {μ : Mem} {n : Nat} (h : n < 6) : ldI μ 458 (I n) = some (μ.2.1 458 n) := ldI_I kd_458 h (by decide)
theorem st_458 {μ : Mem} {n : Nat} {x : Int32} (h : n < 6) : stI μ 458 (I n) x = some (sC μ 458 (up (μ.2.1 458) n x)) := stI_I kd_458 h (by decide)
theorem kd_459 : kd 459 = (0, 6) := by decide +kernel
theorem ld_459 {μ : Mem} {n : Nat} (h : n < 6) : ldI μ 459 (I n) = some (μ.2.1 459 n) := ldI_I kd_459 h (by decide)
theorem st_459 {μ : Mem} {n : Nat} {x : Int32} (h : n < 6) : stI μ 459 (I n) x = some (sC μ 459 (up (μ.2.1 459) n x)) := stI_I kd_459 h (by decide)
theorem kd_460 : kd 460 = (0, 6) := by decide +kernel
theorem ld_460 {μ : Mem} {n : Nat} (h : n < 6) : ldI μ 460 (I n) = some (μ.2.1 460 n) := ldI_I kd_460 h (by decide)
theorem st_460 {μ : Mem} {n : Nat} {x : Int32} (h : n < 6) : stI μ 460 (I n) x = some (sC μ 460 (up (μ.2.1 460) n x)) := stI_I kd_460 h (by decide)
theorem kd_462 : kd 462 = (1, 49) := by decide +kernel
theorem ld_462 {μ : Mem} {n : Nat} (h : n < 49) : ldL μ 462 (I n) = some (μ.2.2.1 462 n) := ldL_I kd_462 h (by decide)
theorem st_462 {μ : Mem} {n : Nat} {x : Int64} (h : n < 49) : stL μ 462 (I n) x = some (sLC μ 462 (up (μ.2.2.1 462) n x)) := stL_I kd_462 h (by decide)
theorem kd_463 : kd 463 = (0, 48) := by decide +kernel
theorem ld_463 {μ : Mem} {n : Nat} (h : n < 48) : ldI μ 463 (I n) = some (μ.2.1 463 n) := ldI_I kd_463 h (by decide)
theorem st_463 {μ : Mem} {n : Nat} {x : Int32} (h : n < 48) : stI μ 463 (I n) x = some (sC μ 463 (up (μ.2.1 463) n x)) := stI_I kd_463 h (by decide)
theorem kd_464 : kd 464 = (0, 6) := by decide +kernel
theorem ld_464 {μ : Mem} {n : Nat} (h : n < 6) : ldI μ 464 (I n) = some (μ.2.1 464 n) := ldI_I kd_464 h (by decide)
theorem st_464 {μ : Mem} {n : Nat} {x : Int32} (h : n < 6) : stI μ 464 (I n) x = some (sC μ 464 (up (μ.2.1 464) n x)) := stI_I kd_464 h (by decide)
theorem kd_465 : kd 465 = (0, 6) := by decide +kernel
theorem ld_465 {μ : Mem} {n : Nat} (h : n < 6) : ldI μ 465 (I n) = some (μ.2.1 465 n) := ldI_I kd_465 h (by decide)
theorem st_465 {μ : Mem} {n : Nat} {x : Int32} (h : n < 6) : stI μ 465 (I n) x = some (sC μ 465 (up (μ.2.1 465) n x)) := stI_I kd_465 h (by decide)
theorem kd_466 : kd 466 = (0, 6) := by decide +kernel
theorem ld_466 {μ : Mem} {n : Nat} (h : n < 6) : ldI μ 466 (I n) = some (μ.2.1 466 n) := ldI_I kd_466 h (by decide)
theorem st_466 {μ : Mem} {n : Nat} {x : Int32} (h : n < 6) : stI μ 466 (I n) x = some (sC μ 466 (up (μ.2.1 466) n x)) := stI_I kd_466 h (by decide)
theorem kd_467 : kd 467 = (0, 6) := by decide +kernel
theorem ld_467 {μ : Mem} {n : Nat} (h : n < 6) : ldI μ 467 (I n) = some (μ.2.1 467 n) := ldI_I kd_467 h (by decide)
theorem st_467 {μ : Mem} {n : Nat} {x : Int32} (h : n < 6) : stI μ 467 (I n) x = some (sC μ 467 (up (μ.2.1 467) n x)) := stI_I kd_467 h (by decide)
theorem kd_469 : kd 469 = (1, 49) := by decide +kernel
theorem ld_469 {μ : Mem} {n : Nat} (h : n < 49) : ldL μ 469 (I n) = some (μ.2.2.1 469 n) := ldL_I kd_469 h (by decide)
theorem st_469 {μ : Mem} {n : Nat} {x : Int64} (h : n < 49) : stL μ 469 (I n) x = some (sLC μ 469 (up (μ.2.2.1 469) n x)) := stL_I kd_469 h (by decide)
theorem kd_470 : kd 470 = (0, 48) := by decide +kernel
theorem ld_470 {μ : Mem} {n : Nat} (h : n < 48) : ldI μ 470 (I n) = some (μ.2.1 470 n) := ldI_I kd_470 h (by decide)
theorem st_470 {μ : Mem} {n : Nat} {x : Int32} (h : n < 48) : stI μ 470 (I n) x = some (sC μ 470 (up (μ.2.1 470) n x)) := stI_I kd_470 h (by decide)
theorem kd_473 : kd 473 = (0, 6) := by decide +kernel
theorem ld_473 {μ : Mem} {n : Nat} (h : n < 6) : ldI μ 473 (I n) = some (μ.2.1 473 n) := ldI_I kd_473 h (by decide)
theorem st_473 {μ : Mem} {n : Nat} {x : Int32} (h : n < 6) : stI μ 473 (I n) x = some (sC μ 473 (up (μ.2.1 473) n x)) := stI_I kd_473 h (by decide)
theorem kd_474 : kd 474 = (0, 6) := by decide +kernel
theorem ld_474 {μ : Mem} {n : Nat} (h : n < 6) : ldI μ 474 (I n) = some (μ.2.1 474 n) := ldI_I kd_474 h (by decide)
theorem st_474 {μ : Mem} {n : Nat} {x : Int32} (h : n < 6) : stI μ 474 (I n) x = some (sC μ 474 (up (μ.2.1 474) n x)) := stI_I kd_474 h (by decide)
theorem kd_475 : kd 475 = (0, 6) := by decide +kernel
theorem ld_475 {μ : Mem} {n : Nat} (h : n < 6) : ldI μ 475 (I n) = some (μ.2.1 475 n) := ldI_I kd_475 h (by decide)
theorem st_475 {μ : Mem} {n : Nat} {x : Int32} (h : n < 6) : stI μ 475 (I n) x = some (sC μ 475 (up (μ.2.1 475) n x)) := stI_I kd_475 h (by decide)
theorem kd_476 : kd 476 = (0, 6) := by decide +kernel
theorem ld_476 {μ : Mem} {n : Nat} (h : n < 6) : ldI μ 476 (I n) = some (μ.2.1 476 n) := ldI_I kd_476 h (by decide)
theorem st_476 {μ : Mem} {n : Nat} {x : Int32} (h : n < 6) : stI μ 476 (I n) x = some (sC μ 476 (up (μ.2.1 476) n x)) := stI_I kd_476 h (by decide)
theorem kd_477 : kd 477 = (0, 6) := by decide +kernel
theorem ld_477 {μ : Mem} {n : Nat} (h : n < 6) : ldI μ 477 (I n) = some (μ.2.1 477 n) := ldI_I kd_477 h (by decide)
theorem st_477 {μ : Mem} {n : Nat} {x : Int32} (h : n < 6) : stI μ 477 (I n) x = some (sC μ 477 (up (μ.2.1 477) n x)) := stI_I kd_477 h (by decide)
theorem kd_478 : kd 478 = (0, 6) := by decide +kernel
theorem ld_478 {μ : Mem} {n : Nat} (h : n < 6) : ldI μ 478 (I n) = some (μ.2.1 478 n) := ldI_I kd_478 h (by decide)
theorem st_478 {μ : Mem} {n : Nat} {x : Int32} (h : n < 6) : stI μ 478 (I n) x = some (sC μ 478 (up (μ.2.1 478) n x)) := stI_I kd_478 h (by decide)
theorem kd_480 : kd 480 = (0, 64) := by decide +kernel
theorem ld_480 {μ : Mem} {n : Nat} (h : n < 64) : ldI μ 480 (I n) = some (μ.2.1 480 n) := ldI_I kd_480 h (by decide)
theorem st_480 {μ : Mem} {n : Nat} {x : Int32} (h : n < 64) : stI μ 480 (I n) x = some (sC μ 480 (up (μ.2.1 480) n x)) := stI_I kd_480 h (by decide)
theorem kd_481 : kd 481 = (0, 64) := by decide +kernel
theorem ld_481 {μ : Mem} {n : Nat} (h : n < 64) : ldI μ 481 (I n) = some (μ.2.1 481 n) := ldI_I kd_481 h (by decide)
theorem st_481 {μ : Mem} {n : Nat} {x : Int32} (h : n < 64) : stI μ 481 (I n) x = some (sC μ 481 (up (μ.2.1 481) n x)) := stI_I kd_481 h (by decide)
theorem kd_482 : kd 482 = (0, 64) := by decide +kernel
theorem ld_482 {μ : Mem} {n : Nat} (h : n < 64) : ldI μ 482 (I n) = some (μ.2.1 482 n) := ldI_I kd_482 h (by decide)
theorem st_482 {μ : Mem} {n : Nat} {x : Int32} (h : n < 64) : stI μ 482 (I n) x = some (sC μ 482 (up (μ.2.1 482) n x)) := stI_I kd_482 h (by decide)
theorem kd_483 : kd 483 = (0, 64) := by decide +kernel
theorem ld_483 {μ : Mem} {n : Nat} (h : n < 64) : ldI μ 483 (I n) = some (μ.2.1 483 n) := ldI_I kd_483 h (by decide)
theorem st_483 {μ : Mem} {n : Nat} {x : Int32} (h : n < 64) : stI μ 483 (I n) x = some (sC μ 483 (up (μ.2.1 483) n x)) := stI_I kd_483 h (by decide)
theorem kd_484 : kd 484 = (0, 64) := by decide +kernel
theorem ld_484 {μ : Mem} {n : Nat} (h : n < 64) : ldI μ 484 (I n) = some (μ.2.1 484 n) := ldI_I kd_484 h (by decide)
theorem st_484 {μ : Mem} {n : Nat} {x : Int32} (h : n < 64) : stI μ 484 (I n) x = some (sC μ 484 (up (μ.2.1 484) n x)) := stI_I kd_484 h (by decide)
theorem kd_485 : kd 485 = (0, 64) := by decide +kernel
theorem ld_485 {μ : Mem} {n : Nat} (h : n < 64) : ldI μ 485 (I n) = some (μ.2.1 485 n) := ldI_I kd_485 h (by decide)
theorem st_485 {μ : Mem} {n : Nat} {x : Int32} (h : n < 64) : stI μ 485 (I n) x = some (sC μ 485 (up (μ.2.1 485) n x)) := stI_I kd_485 h (by decide)
theorem kd_486 : kd 486 = (0, 64) := by decide +kernel
theorem ld_486 {μ : Mem} {n : Nat} (h : n < 64) : ldI μ 486 (I n) = some (μ.2.1 486 n) := ldI_I kd_486 h (by decide)
theorem st_486 {μ : Mem} {n : Nat} {x : Int32} (h : n < 64) : stI μ 486 (I n) x = some (sC μ 486 (up (μ.2.1 486) n x)) := stI_I kd_486 h (by decide)
theorem kd_488 : kd 488 = (1, 6) := by decide +kernel
theorem ld_488 {μ : Mem} {n : Nat} (h : n < 6) : ldL μ 488 (I n) = some (μ.2.2.1 488 n) := ldL_I kd_488 h (by decide)
theorem st_488 {μ : Mem} {n : Nat} {x : Int64} (h : n < 6) : stL μ 488 (I n) x = some (sLC μ 488 (up (μ.2.2.1 488) n x)) := stL_I kd_488 h (by decide)
theorem kd_490 : kd 490 = (0, 4) := by decide +kernel
theorem ld_490 {μ : Mem} {n : Nat} (h : n < 4) : ldI μ 490 (I n) = some (μ.2.1 490 n) := ldI_I kd_490 h (by decide)
theorem st_490 {μ : Mem} {n : Nat} {x : Int32} (h : n < 4) : stI μ 490 (I n) x = some (sC μ 490 (up (μ.2.1 490) n x)) := stI_I kd_490 h (by decide)
theorem kd_491 : kd 491 = (0, 4) := by decide +kernel
theorem ld_491 {μ : Mem} {n : Nat} (h : n < 4) : ldI μ 491 (I n) = some (μ.2.1 491 n) := ldI_I kd_491 h (by decide)
theorem st_491 {μ : Mem} {n : Nat} {x : Int32} (h : n < 4) : stI μ 491 (I n) x = some (sC μ 491 (up (μ.2.1 491) n x)) := stI_I kd_491 h (by decide)
theorem kd_493 : kd 493 = (0, 6) := by decide +kernel
theorem ld_493 {μ : Mem} {n : Nat} (h : n < 6) : ldI μ 493 (I n) = some (μ.2.1 493 n) := ldI_I kd_493 h (by decide)
theorem st_493 {μ : Mem} {n : Nat} {x : Int32} (h : n < 6) : stI μ 493 (I n) x = some (sC μ 493 (up (μ.2.1 493) n x)) := stI_I kd_493 h (by decide)
theorem kd_494 : kd 494 = (0, 1400) := by decide +kernel
theorem ld_494 {μ : Mem} {n : Nat} (h : n < 1400) : ldI μ 494 (I n) = some (μ.2.1 494 n) := ldI_I kd_494 h (by decide)
theorem st_494 {μ : Mem} {n : Nat} {x : Int32} (h : n < 1400) : stI μ 494 (I n) x = some (sC μ 494 (up (μ.2.1 494) n x)) := stI_I kd_494 h (by decide)
theorem kd_495 : kd 495 = (0, 700) := by decide +kernel
theorem ld_495 {μ : Mem} {n : Nat} (h : n < 700) : ldI μ 495 (I n) = some (μ.2.1 495 n) := ldI_I kd_495 h (by decide)
theorem st_495 {μ : Mem} {n : Nat} {x : Int32} (h : n < 700) : stI μ 495 (I n) x = some (sC μ 495 (up (μ.2.1 495) n x)) := stI_I kd_495 h (by decide)
theorem kd_496 : kd 496 = (0, 3) := by decide +kernel
theorem ld_496 {μ : Mem} {n : Nat} (h : n < 3) : ldI μ 496 (I n) = some (μ.2.1 496 n) := ldI_I kd_496 h (by decide)
theorem st_496 {μ : Mem} {n : Nat} {x : Int32} (h : n < 3) : stI μ 496 (I n) x = some (sC μ 496 (up (μ.2.1 496) n x)) := stI_I kd_496 h (by decide)
theorem kd_497 : kd 497 = (0, 6) := by decide +kernel
theorem ld_497 {μ : Mem} {n : Nat} (h : n < 6) : ldI μ 497 (I n) = some (μ.2.1 497 n) := ldI_I kd_497 h (by decide)
theorem st_497 {μ : Mem} {n : Nat} {x : Int32} (h : n < 6) : stI μ 497 (I n) x = some (sC μ 497 (up (μ.2.1 497) n x)) := stI_I kd_497 h (by decide)
theorem kd_498 : kd 498 = (0, 79) := by decide +kernel
theorem ld_498 {μ : Mem} {n : Nat} (h : n < 79) : ldI μ 498 (I n) = some (μ.2.1 498 n) := ldI_I kd_498 h (by decide)
theorem st_498 {μ : Mem} {n : Nat} {x : Int32} (h : n < 79) : stI μ 498 (I n) x = some (sC μ 498 (up (μ.2.1 498) n x)) := stI_I kd_498 h (by decide)
theorem kd_499 : kd 499 = (0, 1400) := by decide +kernel
theorem ld_499 {μ : Mem} {n : Nat} (h : n < 1400) : ldI μ 499 (I n) = some (μ.2.1 499 n) := ldI_I kd_499 h (by decide)
theorem st_499 {μ : Mem} {n : Nat} {x : Int32} (h : n < 1400) : stI μ 499 (I n) x = some (sC μ 499 (up (μ.2.1 499) n x)) := stI_I kd_499 h (by decide)
theorem kd_500 : kd 500 = (0, 950) := by decide +kernel
theorem ld_500 {μ : Mem} {n : Nat} (h : n < 950) : ldI μ 500 (I n) = some (μ.2.1 500 n) := ldI_I kd_500 h (by decide)
theorem st_500 {μ : Mem} {n : Nat} {x : Int32} (h : n < 950) : stI μ 500 (I n) x = some (sC μ 500 (up (μ.2.1 500) n x)) := stI_I kd_500 h (by decide)
theorem kd_501 : kd 501 = (2, 9) := by decide +kernel
theorem ld_501 {μ : Mem} {n : Nat} (h : n < 9) : ldI μ 501 (I n) = some (μ.2.1 501 n) := ldI_I kd_501 h (by decide)
theorem st_501 {μ : Mem} {n : Nat} {x : Int32} (h : n < 9) : stI μ 501 (I n) x = some (sC μ 501 (up (μ.2.1 501) n x)) := stI_I kd_501 h (by decide)
theorem kd_502 : kd 502 = (0, 158) := by decide +kernel
theorem ld_502 {μ : Mem} {n : Nat} (h : n < 158) : ldI μ 502 (I n) = some (μ.2.1 502 n) := ldI_I kd_502 h (by decide)
theorem st_502 {μ : Mem} {n : Nat} {x : Int32} (h : n < 158) : stI μ 502 (I n) x = some (sC μ 502 (up (μ.2.1 502) n x)) := stI_I kd_502 h (by decide)
theorem kd_503 : kd 503 = (0, 3160) := by decide +kernel
theorem ld_503 {μ : Mem} {n : Nat} (h : n < 3160) : ldI μ 503 (I n) = some (μ.2.1 503 n) := ldI_I kd_503 h (by decide)
theorem st_503 {μ : Mem} {n : Nat} {x : Int32} (h : n < 3160) : stI μ 503 (I n) x = some (sC μ 503 (up (μ.2.1 503) n x)) := stI_I kd_503 h (by decide)
theorem kd_504 : kd 504 = (0, 9) := by decide +kernel
theorem ld_504 {μ : Mem} {n : Nat} (h : n < 9) : ldI μ 504 (I n) = some (μ.2.1 504 n) := ldI_I kd_504 h (by decide)
theorem st_504 {μ : Mem} {n : Nat} {x : Int32} (h : n < 9) : stI μ 504 (I n) x = some (sC μ 504 (up (μ.2.1 504) n x)) := stI_I kd_504 h (by decide)
theorem kd_505 : kd 505 = (0, 950) := by decide +kernel
theorem ld_505 {μ : Mem} {n : Nat} (h : n < 950) : ldI μ 505 (I n) = some (μ.2.1 505 n) := ldI_I kd_505 h (by decide)
theorem st_505 {μ : Mem} {n : Nat} {x : Int32} (h : n < 950) : stI μ 505 (I n) x = some (sC μ 505 (up (μ.2.1 505) n x)) := stI_I kd_505 h (by decide)
theorem kd_506 : kd 506 = (0, 48) := by decide +kernel
theorem ld_506 {μ : Mem} {n : Nat} (h : n < 48) : ldI μ 506 (I n) = some (μ.2.1 506 n) := ldI_I kd_506 h (by decide)
theorem st_506 {μ : Mem} {n : Nat} {x : Int32} (h : n < 48) : stI μ 506 (I n) x = some (sC μ 506 (up (μ.2.1 506) n x)) := stI_I kd_506 h (by decide)
theorem kd_507 : kd 507 = (0, 48) := by decide +kernel
theorem ld_507 {μ : Mem} {n : Nat} (h : n < 48) : ldI μ 507 (I n) = some (μ.2.1 507 n) := ldI_I kd_507 h (by decide)
theorem st_507 {μ : Mem} {n : Nat} {x : Int32} (h : n < 48) : stI μ 507 (I n) x = some (sC μ 507 (up (μ.2.1 507) n x)) := stI_I kd_507 h (by decide)
theorem kd_508 : kd 508 = (0, 6) := by decide +kernel
theorem ld_508 {μ : Mem} {n : Nat} (h : n < 6) : ldI μ 508 (I n) = some (μ.2.1 508 n) := ldI_I kd_508 h (by decide)
theorem st_508 {μ : Mem} {n : Nat} {x : Int32} (h : n < 6) : stI μ 508 (I n) x = some (sC μ 508 (up (μ.2.1 508) n x)) := stI_I kd_508 h (by decide)
theorem kd_509 : kd 509 = (0, 48) := by decide +kernel
theorem ld_509 {μ : Mem} {n : Nat} (h : n < 48) : ldI μ 509 (I n) = some (μ.2.1 509 n) := ldI_I kd_509 h (by decide)
theorem st_509 {μ : Mem} {n : Nat} {x : Int32} (h : n < 48) : stI μ 509 (I n) x = some (sC μ 509 (up (μ.2.1 509) n x)) := stI_I kd_509 h (by decide)
theorem kd_510 : kd 510 = (0, 36) := by decide +kernel
theorem ld_510 {μ : Mem} {n : Nat} (h : n < 36) : ldI μ 510 (I n) = some (μ.2.1 510 n) := ldI_I kd_510 h (by decide)
theorem st_510 {μ : Mem} {n : Nat} {x : Int32} (h : n < 36) : stI μ 510 (I n) x = some (sC μ 510 (up (μ.2.1 510) n x)) := stI_I kd_510 h (by decide)
theorem kd_511 : kd 511 = (0, 448) := by decide +kernel
theorem ld_511 {μ : Mem} {n : Nat} (h : n < 448) : ldI μ 511 (I n) = some (μ.2.1 511 n) := ldI_I kd_511 h (by decide)
theorem st_511 {μ : Mem} {n : Nat} {x : Int32} (h : n < 448) : stI μ 511 (I n) x = some (sC μ 511 (up (μ.2.1 511) n x)) := stI_I kd_511 h (by decide)
theorem kd_512 : kd 512 = (0, 24) := by decide +kernel
theorem ld_512 {μ : Mem} {n : Nat} (h : n < 24) : ldI μ 512 (I n) = some (μ.2.1 512 n) := ldI_I kd_512 h (by decide)
theorem st_512 {μ : Mem} {n : Nat} {x : Int32} (h : n < 24) : stI μ 512 (I n) x = some (sC μ 512 (up (μ.2.1 512) n x)) := stI_I kd_512 h (by decide)
theorem kd_513 : kd 513 = (0, 6) := by decide +kernel
theorem ld_513 {μ : Mem} {n : Nat} (h : n < 6) : ldI μ 513 (I n) = some (μ.2.1 513 n) := ldI_I kd_513 h (by decide)
theorem st_513 {μ : Mem} {n : Nat} {x : Int32} (h : n < 6) : stI μ 513 (I n) x = some (sC μ 513 (up (μ.2.1 513) n x)) := stI_I kd_513 h (by decide)
theorem kd_514 : kd 514 = (0, 360) := by decide +kernel
theorem ld_514 {μ : Mem} {n : Nat} (h : n < 360) : ldI μ 514 (I n) = some (μ.2.1 514 n) := ldI_I kd_514 h (by decide)
theorem st_514 {μ : Mem} {n : Nat} {x : Int32} (h : n < 360) : stI μ 514 (I n) x = some (sC μ 514 (up (μ.2.1 514) n x)) := stI_I kd_514 h (by decide)
theorem kd_515 : kd 515 = (0, 79) := by decide +kernel
theorem ld_515 {μ : Mem} {n : Nat} (h : n < 79) : ldI μ 515 (I n) = some (μ.2.1 515 n) := ldI_I kd_515 h (by decide)
theorem st_515 {μ : Mem} {n : Nat} {x : Int32} (h : n < 79) : stI μ 515 (I n) x = some (sC μ 515 (up (μ.2.1 515) n x)) := stI_I kd_515 h (by decide)
theorem kd_516 : kd 516 = (0, 3160) := by decide +kernel
theorem ld_516 {μ : Mem} {n : Nat} (h : n < 3160) : ldI μ 516 (I n) = some (μ.2.1 516 n) := ldI_I kd_516 h (by decide)
theorem st_516 {μ : Mem} {n : Nat} {x : Int32} (h : n < 3160) : stI μ 516 (I n) x = some (sC μ 516 (up (μ.2.1 516) n x)) := stI_I kd_516 h (by decide)
theorem kd_517 : kd 517 = (0, 24) := by decide +kernel
theorem ld_517 {μ : Mem} {n : Nat} (h : n < 24) : ldI μ 517 (I n) = some (μ.2.1 517 n) := ldI_I kd_517 h (by decide)
theorem st_517 {μ : Mem} {n : Nat} {x : Int32} (h : n < 24) : stI μ 517 (I n) x = some (sC μ 517 (up (μ.2.1 517) n x)) := stI_I kd_517 h (by decide)
theorem kd_518 : kd 518 = (1, 1) := by decide +kernel
theorem ld_518 {μ : Mem} {n : Nat} (h : n < 1) : ldL μ 518 (I n) = some (μ.2.2.1 518 n) := ldL_I kd_518 h (by decide)
theorem st_518 {μ : Mem} {n : Nat} {x : Int64} (h : n < 1) : stL μ 518 (I n) x = some (sLC μ 518 (up (μ.2.2.1 518) n x)) := stL_I kd_518 h (by decide)
