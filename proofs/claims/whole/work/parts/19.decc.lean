theorem dX10_isSeenWith_3 : decode cX10_isSeenWith 3 = .ok (.invokevirtual 341, 3) := by decide +kernel
theorem dX10_isSeenWith_6 : decode cX10_isSeenWith 6 = .ok (.aload_n 0, 1) := by decide +kernel
theorem dX10_isSeenWith_7 : decode cX10_isSeenWith 7 = .ok (.getfield 59, 3) := by decide +kernel
theorem dX10_isSeenWith_10 : decode cX10_isSeenWith 10 = .ok (.invokevirtual 344, 3) := by decide +kernel
theorem dX10_isSeenWith_13 : decode cX10_isSeenWith 13 = .ok (.istore_n 3, 1) := by decide +kernel
theorem dX10_isSeenWith_14 : decode cX10_isSeenWith 14 = .ok (.iconst 0, 1) := by decide +kernel
theorem dX10_isSeenWith_15 : decode cX10_isSeenWith 15 = .ok (.istore 4, 2) := by decide +kernel
theorem dX10_isSeenWith_17 : decode cX10_isSeenWith 17 = .ok (.iload 4, 2) := by decide +kernel
theorem dX10_isSeenWith_19 : decode cX10_isSeenWith 19 = .ok (.iload_n 3, 1) := by decide +kernel
theorem dX10_isSeenWith_20 : decode cX10_isSeenWith 20 = .ok (.if_icmp .gt 38, 3) := by decide +kernel
theorem dX10_isSeenWith_23 : decode cX10_isSeenWith 23 = .ok (.aload_n 0, 1) := by decide +kernel
theorem dX10_isSeenWith_24 : decode cX10_isSeenWith 24 = .ok (.getfield 59, 3) := by decide +kernel
theorem dX10_isSeenWith_27 : decode cX10_isSeenWith 27 = .ok (.iload 4, 2) := by decide +kernel
theorem dX10_isSeenWith_29 : decode cX10_isSeenWith 29 = .ok (.aload_n 0, 1) := by decide +kernel
theorem dX10_isSeenWith_30 : decode cX10_isSeenWith 30 = .ok (.getfield 79, 3) := by decide +kernel
theorem dX10_isSeenWith_33 : decode cX10_isSeenWith 33 = .ok (.getfield 242, 3) := by decide +kernel
theorem dX10_isSeenWith_36 : decode cX10_isSeenWith 36 = .ok (.invokevirtual 347, 3) := by decide +kernel
theorem dX10_isSeenWith_39 : decode cX10_isSeenWith 39 = .ok (.ifCond .ne 5, 3) := by decide +kernel
theorem dX10_isSeenWith_42 : decode cX10_isSeenWith 42 = .ok (.iconst 0, 1) := by decide +kernel
theorem dX10_isSeenWith_43 : decode cX10_isSeenWith 43 = .ok (.ireturn, 1) := by decide +kernel
theorem dX10_isSeenWith_44 : decode cX10_isSeenWith 44 = .ok (.aload_n 0, 1) := by decide +kernel
theorem dX10_isSeenWith_45 : decode cX10_isSeenWith 45 = .ok (.getfield 79, 3) := by decide +kernel
theorem dX10_isSeenWith_48 : decode cX10_isSeenWith 48 = .ok (.iconst 1, 1) := by decide +kernel
theorem dX10_isSeenWith_49 : decode cX10_isSeenWith 49 = .ok (.invokevirtual 268, 3) := by decide +kernel
theorem dX10_isSeenWith_52 : decode cX10_isSeenWith 52 = .ok (.iinc 4 1, 3) := by decide +kernel
theorem dX10_isSeenWith_55 : decode cX10_isSeenWith 55 = .ok (.goto (-38), 3) := by decide +kernel
theorem dX10_isSeenWith_58 : decode cX10_isSeenWith 58 = .ok (.iconst 1, 1) := by decide +kernel
theorem dX10_isSeenWith_59 : decode cX10_isSeenWith 59 = .ok (.ireturn, 1) := by decide +kernel
theorem dX10_beginWith_0 : decode cX10_beginWith 0 = .ok (.aload_n 0, 1) := by decide +kernel
theorem dX10_beginWith_1 : decode cX10_beginWith 1 = .ok (.getfield 79, 3) := by decide +kernel
theorem dX10_beginWith_4 : decode cX10_beginWith 4 = .ok (.aload_n 0, 1) := by decide +kernel
theorem dX10_beginWith_5 : decode cX10_beginWith 5 = .ok (.getfield 26, 3) := by decide +kernel
theorem dX10_beginWith_8 : decode cX10_beginWith 8 = .ok (.aload_n 0, 1) := by decide +kernel
theorem dX10_beginWith_9 : decode cX10_beginWith 9 = .ok (.getfield 45, 3) := by decide +kernel
theorem dX10_beginWith_12 : decode cX10_beginWith 12 = .ok (.invokevirtual 264, 3) := by decide +kernel
theorem dX10_beginWith_15 : decode cX10_beginWith 15 = .ok (.iload_n 1, 1) := by decide +kernel
theorem dX10_beginWith_16 : decode cX10_beginWith 16 = .ok (.ifCond .lt 19, 3) := by decide +kernel
theorem dX10_beginWith_19 : decode cX10_beginWith 19 = .ok (.iload_n 1, 1) := by decide +kernel
theorem dX10_beginWith_20 : decode cX10_beginWith 20 = .ok (.bipush 6, 2) := by decide +kernel
theorem dX10_beginWith_22 : decode cX10_beginWith 22 = .ok (.if_icmp .ge 13, 3) := by decide +kernel
theorem dX10_beginWith_25 : decode cX10_beginWith 25 = .ok (.aload_n 0, 1) := by decide +kernel
theorem dX10_beginWith_26 : decode cX10_beginWith 26 = .ok (.getfield 79, 3) := by decide +kernel
theorem dX10_beginWith_29 : decode cX10_beginWith 29 = .ok (.getfield 351, 3) := by decide +kernel
theorem dX10_beginWith_32 : decode cX10_beginWith 32 = .ok (.iload_n 1, 1) := by decide +kernel
theorem dX10_beginWith_33 : decode cX10_beginWith 33 = .ok (.iload_n 2, 1) := by decide +kernel
theorem dX10_beginWith_34 : decode cX10_beginWith 34 = .ok (.iastore, 1) := by decide +kernel
theorem dX10_beginWith_35 : decode cX10_beginWith 35 = .ok (.return_, 1) := by decide +kernel
theorem dX10_look_0 : decode cX10_look 0 = .ok (.aload_n 0, 1) := by decide +kernel
theorem dX10_look_1 : decode cX10_look 1 = .ok (.iload_n 1, 1) := by decide +kernel
theorem dX10_look_2 : decode cX10_look 2 = .ok (.iconst 2, 1) := by decide +kernel
theorem dX10_look_3 : decode cX10_look 3 = .ok (.invokevirtual 140, 3) := by decide +kernel
theorem dX10_look_6 : decode cX10_look 6 = .ok (.iconst 0, 1) := by decide +kernel
theorem dX10_look_7 : decode cX10_look 7 = .ok (.istore_n 2, 1) := by decide +kernel
theorem dX10_look_8 : decode cX10_look 8 = .ok (.iload_n 2, 1) := by decide +kernel
theorem dX10_look_9 : decode cX10_look 9 = .ok (.bipush 6, 2) := by decide +kernel
theorem dX10_look_11 : decode cX10_look 11 = .ok (.if_icmp .ge 16, 3) := by decide +kernel
theorem dX10_look_14 : decode cX10_look 14 = .ok (.aload_n 0, 1) := by decide +kernel
theorem dX10_look_15 : decode cX10_look 15 = .ok (.getfield 104, 3) := by decide +kernel
theorem dX10_look_18 : decode cX10_look 18 = .ok (.iload_n 2, 1) := by decide +kernel
theorem dX10_look_19 : decode cX10_look 19 = .ok (.lconst 0, 1) := by decide +kernel
theorem dX10_look_20 : decode cX10_look 20 = .ok (.lastore, 1) := by decide +kernel
theorem dX10_look_21 : decode cX10_look 21 = .ok (.iinc 2 1, 3) := by decide +kernel
theorem dX10_look_24 : decode cX10_look 24 = .ok (.goto (-16), 3) := by decide +kernel
theorem dX10_look_27 : decode cX10_look 27 = .ok (.iconst 0, 1) := by decide +kernel
theorem dX10_look_28 : decode cX10_look 28 = .ok (.istore_n 2, 1) := by decide +kernel
theorem dX10_look_29 : decode cX10_look 29 = .ok (.iload_n 2, 1) := by decide +kernel
theorem dX10_look_30 : decode cX10_look 30 = .ok (.aload_n 0, 1) := by decide +kernel
theorem dX10_look_31 : decode cX10_look 31 = .ok (.getfield 26, 3) := by decide +kernel
theorem dX10_look_34 : decode cX10_look 34 = .ok (.getfield 147, 3) := by decide +kernel
theorem dX10_look_37 : decode cX10_look 37 = .ok (.if_icmp .ge 51, 3) := by decide +kernel
theorem dX10_look_40 : decode cX10_look 40 = .ok (.iconst 0, 1) := by decide +kernel
theorem dX10_look_41 : decode cX10_look 41 = .ok (.istore_n 3, 1) := by decide +kernel
theorem dX10_look_42 : decode cX10_look 42 = .ok (.iload_n 3, 1) := by decide +kernel
theorem dX10_look_43 : decode cX10_look 43 = .ok (.bipush 9, 2) := by decide +kernel
theorem dX10_look_45 : decode cX10_look 45 = .ok (.if_icmp .gt 37, 3) := by decide +kernel
theorem dX10_look_48 : decode cX10_look 48 = .ok (.iload_n 3, 1) := by decide +kernel
theorem dX10_look_49 : decode cX10_look 49 = .ok (.aload_n 0, 1) := by decide +kernel
theorem dX10_look_50 : decode cX10_look 50 = .ok (.getfield 26, 3) := by decide +kernel
theorem dX10_look_53 : decode cX10_look 53 = .ok (.getfield 217, 3) := by decide +kernel
theorem dX10_look_56 : decode cX10_look 56 = .ok (.iload_n 2, 1) := by decide +kernel
theorem dX10_look_57 : decode cX10_look 57 = .ok (.iaload, 1) := by decide +kernel
theorem dX10_look_58 : decode cX10_look 58 = .ok (.if_icmp .eq 18, 3) := by decide +kernel
theorem dX10_look_61 : decode cX10_look 61 = .ok (.aload_n 0, 1) := by decide +kernel
theorem dX10_look_62 : decode cX10_look 62 = .ok (.iload_n 2, 1) := by decide +kernel
theorem dX10_look_63 : decode cX10_look 63 = .ok (.iload_n 3, 1) := by decide +kernel
theorem dX10_look_64 : decode cX10_look 64 = .ok (.invokevirtual 337, 3) := by decide +kernel
theorem dX10_look_67 : decode cX10_look 67 = .ok (.ifCond .eq 9, 3) := by decide +kernel
theorem dX10_look_70 : decode cX10_look 70 = .ok (.aload_n 0, 1) := by decide +kernel
theorem dX10_look_71 : decode cX10_look 71 = .ok (.iload_n 2, 1) := by decide +kernel
theorem dX10_look_72 : decode cX10_look 72 = .ok (.iload_n 3, 1) := by decide +kernel
theorem dX10_look_73 : decode cX10_look 73 = .ok (.invokevirtual 352, 3) := by decide +kernel
theorem dX10_look_76 : decode cX10_look 76 = .ok (.iinc 3 1, 3) := by decide +kernel
theorem dX10_look_79 : decode cX10_look 79 = .ok (.goto (-37), 3) := by decide +kernel
theorem dX10_look_82 : decode cX10_look 82 = .ok (.iinc 2 1, 3) := by decide +kernel
theorem dX10_look_85 : decode cX10_look 85 = .ok (.goto (-56), 3) := by decide +kernel
theorem dX10_look_88 : decode cX10_look 88 = .ok (.aload_n 0, 1) := by decide +kernel
theorem dX10_look_89 : decode cX10_look 89 = .ok (.iload_n 1, 1) := by decide +kernel
theorem dX10_look_90 : decode cX10_look 90 = .ok (.invokevirtual 355, 3) := by decide +kernel
theorem dX10_look_93 : decode cX10_look 93 = .ok (.ireturn, 1) := by decide +kernel
theorem dX10_mostLookedFor_0 : decode cX10_mostLookedFor 0 = .ok (.iconst (-1), 1) := by decide +kernel
theorem dX10_mostLookedFor_1 : decode cX10_mostLookedFor 1 = .ok (.istore_n 2, 1) := by decide +kernel
theorem dX10_mostLookedFor_2 : decode cX10_mostLookedFor 2 = .ok (.iconst 0, 1) := by decide +kernel
theorem dX10_mostLookedFor_3 : decode cX10_mostLookedFor 3 = .ok (.istore_n 3, 1) := by decide +kernel
theorem dX10_mostLookedFor_4 : decode cX10_mostLookedFor 4 = .ok (.iconst 0, 1) := by decide +kernel
theorem dX10_mostLookedFor_5 : decode cX10_mostLookedFor 5 = .ok (.istore 4, 2) := by decide +kernel
theorem dX10_mostLookedFor_7 : decode cX10_mostLookedFor 7 = .ok (.iload 4, 2) := by decide +kernel
theorem dX10_mostLookedFor_9 : decode cX10_mostLookedFor 9 = .ok (.aload_n 0, 1) := by decide +kernel
theorem dX10_mostLookedFor_10 : decode cX10_mostLookedFor 10 = .ok (.getfield 26, 3) := by decide +kernel
theorem dX10_mostLookedFor_13 : decode cX10_mostLookedFor 13 = .ok (.getfield 147, 3) := by decide +kernel
theorem dX10_mostLookedFor_16 : decode cX10_mostLookedFor 16 = .ok (.if_icmp .ge 33, 3) := by decide +kernel
theorem dX10_mostLookedFor_19 : decode cX10_mostLookedFor 19 = .ok (.aload_n 0, 1) := by decide +kernel
theorem dX10_mostLookedFor_20 : decode cX10_mostLookedFor 20 = .ok (.getfield 104, 3) := by decide +kernel
theorem dX10_mostLookedFor_23 : decode cX10_mostLookedFor 23 = .ok (.iload 4, 2) := by decide +kernel
theorem dX10_mostLookedFor_25 : decode cX10_mostLookedFor 25 = .ok (.laload, 1) := by decide +kernel
theorem dX10_mostLookedFor_26 : decode cX10_mostLookedFor 26 = .ok (.invokestatic 165, 3) := by decide +kernel
theorem dX10_mostLookedFor_29 : decode cX10_mostLookedFor 29 = .ok (.istore 5, 2) := by decide +kernel
theorem dX10_mostLookedFor_31 : decode cX10_mostLookedFor 31 = .ok (.iload 5, 2) := by decide +kernel
theorem dX10_mostLookedFor_33 : decode cX10_mostLookedFor 33 = .ok (.iload_n 3, 1) := by decide +kernel
theorem dX10_mostLookedFor_34 : decode cX10_mostLookedFor 34 = .ok (.if_icmp .le 9, 3) := by decide +kernel
theorem dX10_mostLookedFor_37 : decode cX10_mostLookedFor 37 = .ok (.iload 5, 2) := by decide +kernel
theorem dX10_mostLookedFor_39 : decode cX10_mostLookedFor 39 = .ok (.istore_n 3, 1) := by decide +kernel
theorem dX10_mostLookedFor_40 : decode cX10_mostLookedFor 40 = .ok (.iload 4, 2) := by decide +kernel
theorem dX10_mostLookedFor_42 : decode cX10_mostLookedFor 42 = .ok (.istore_n 2, 1) := by decide +kernel
theorem dX10_mostLookedFor_43 : decode cX10_mostLookedFor 43 = .ok (.iinc 4 1, 3) := by decide +kernel
theorem dX10_mostLookedFor_46 : decode cX10_mostLookedFor 46 = .ok (.goto (-39), 3) := by decide +kernel
theorem dX10_mostLookedFor_49 : decode cX10_mostLookedFor 49 = .ok (.iload_n 1, 1) := by decide +kernel
theorem dX10_mostLookedFor_50 : decode cX10_mostLookedFor 50 = .ok (.ifCond .ne 7, 3) := by decide +kernel
theorem dX10_mostLookedFor_53 : decode cX10_mostLookedFor 53 = .ok (.iload_n 2, 1) := by decide +kernel
theorem dX10_mostLookedFor_54 : decode cX10_mostLookedFor 54 = .ok (.goto 4, 3) := by decide +kernel
theorem dX10_mostLookedFor_57 : decode cX10_mostLookedFor 57 = .ok (.iload_n 3, 1) := by decide +kernel
theorem dX10_mostLookedFor_58 : decode cX10_mostLookedFor 58 = .ok (.ireturn, 1) := by decide +kernel
theorem dX10_addPlacesWith_0 : decode cX10_addPlacesWith 0 = .ok (.aload_n 0, 1) := by decide +kernel
theorem dX10_addPlacesWith_1 : decode cX10_addPlacesWith 1 = .ok (.iload_n 1, 1) := by decide +kernel
theorem dX10_addPlacesWith_2 : decode cX10_addPlacesWith 2 = .ok (.iload_n 2, 1) := by decide +kernel
theorem dX10_addPlacesWith_3 : decode cX10_addPlacesWith 3 = .ok (.invokevirtual 341, 3) := by decide +kernel
theorem dX10_addPlacesWith_6 : decode cX10_addPlacesWith 6 = .ok (.iconst 0, 1) := by decide +kernel
theorem dX10_addPlacesWith_7 : decode cX10_addPlacesWith 7 = .ok (.istore_n 3, 1) := by decide +kernel
theorem dX10_addPlacesWith_8 : decode cX10_addPlacesWith 8 = .ok (.iload_n 3, 1) := by decide +kernel
theorem dX10_addPlacesWith_9 : decode cX10_addPlacesWith 9 = .ok (.iconst 4, 1) := by decide +kernel
theorem dX10_addPlacesWith_10 : decode cX10_addPlacesWith 10 = .ok (.if_icmp .ge 17, 3) := by decide +kernel
theorem dX10_addPlacesWith_13 : decode cX10_addPlacesWith 13 = .ok (.aload_n 0, 1) := by decide +kernel
theorem dX10_addPlacesWith_14 : decode cX10_addPlacesWith 14 = .ok (.getfield 79, 3) := by decide +kernel
theorem dX10_addPlacesWith_17 : decode cX10_addPlacesWith 17 = .ok (.iconst 1, 1) := by decide +kernel
theorem dX10_addPlacesWith_18 : decode cX10_addPlacesWith 18 = .ok (.invokevirtual 268, 3) := by decide +kernel
theorem dX10_addPlacesWith_21 : decode cX10_addPlacesWith 21 = .ok (.iinc 3 1, 3) := by decide +kernel
theorem dX10_addPlacesWith_24 : decode cX10_addPlacesWith 24 = .ok (.goto (-16), 3) := by decide +kernel
theorem dX10_addPlacesWith_27 : decode cX10_addPlacesWith 27 = .ok (.iconst 0, 1) := by decide +kernel
theorem dX10_addPlacesWith_28 : decode cX10_addPlacesWith 28 = .ok (.istore_n 3, 1) := by decide +kernel
theorem dX10_addPlacesWith_29 : decode cX10_addPlacesWith 29 = .ok (.iload_n 3, 1) := by decide +kernel
theorem dX10_addPlacesWith_30 : decode cX10_addPlacesWith 30 = .ok (.aload_n 0, 1) := by decide +kernel
theorem dX10_addPlacesWith_31 : decode cX10_addPlacesWith 31 = .ok (.getfield 26, 3) := by decide +kernel
theorem dX10_addPlacesWith_34 : decode cX10_addPlacesWith 34 = .ok (.getfield 147, 3) := by decide +kernel
theorem dX10_addPlacesWith_37 : decode cX10_addPlacesWith 37 = .ok (.if_icmp .ge 33, 3) := by decide +kernel
theorem dX10_addPlacesWith_40 : decode cX10_addPlacesWith 40 = .ok (.aload_n 0, 1) := by decide +kernel
theorem dX10_addPlacesWith_41 : decode cX10_addPlacesWith 41 = .ok (.getfield 104, 3) := by decide +kernel
theorem dX10_addPlacesWith_44 : decode cX10_addPlacesWith 44 = .ok (.iload_n 3, 1) := by decide +kernel
theorem dX10_addPlacesWith_45 : decode cX10_addPlacesWith 45 = .ok (.dup2, 1) := by decide +kernel
theorem dX10_addPlacesWith_46 : decode cX10_addPlacesWith 46 = .ok (.laload, 1) := by decide +kernel
theorem dX10_addPlacesWith_47 : decode cX10_addPlacesWith 47 = .ok (.aload_n 0, 1) := by decide +kernel
theorem dX10_addPlacesWith_48 : decode cX10_addPlacesWith 48 = .ok (.getfield 79, 3) := by decide +kernel
theorem dX10_addPlacesWith_51 : decode cX10_addPlacesWith 51 = .ok (.getfield 242, 3) := by decide +kernel
theorem dX10_addPlacesWith_54 : decode cX10_addPlacesWith 54 = .ok (.getfield 208, 3) := by decide +kernel
theorem dX10_addPlacesWith_57 : decode cX10_addPlacesWith 57 = .ok (.iload_n 3, 1) := by decide +kernel
theorem dX10_addPlacesWith_58 : decode cX10_addPlacesWith 58 = .ok (.iaload, 1) := by decide +kernel
theorem dX10_addPlacesWith_59 : decode cX10_addPlacesWith 59 = .ok (.invokestatic 248, 3) := by decide +kernel
theorem dX10_addPlacesWith_62 : decode cX10_addPlacesWith 62 = .ok (.lor, 1) := by decide +kernel
theorem dX10_addPlacesWith_63 : decode cX10_addPlacesWith 63 = .ok (.lastore, 1) := by decide +kernel
theorem dX10_addPlacesWith_64 : decode cX10_addPlacesWith 64 = .ok (.iinc 3 1, 3) := by decide +kernel
theorem dX10_addPlacesWith_67 : decode cX10_addPlacesWith 67 = .ok (.goto (-38), 3) := by decide +kernel
theorem dX10_addPlacesWith_70 : decode cX10_addPlacesWith 70 = .ok (.return_, 1) := by decide +kernel
theorem dX10_candles_0 : decode cX10_candles 0 = .ok (.aload_n 0, 1) := by decide +kernel
theorem dX10_candles_1 : decode cX10_candles 1 = .ok (.iload_n 1, 1) := by decide +kernel
theorem dX10_candles_2 : decode cX10_candles 2 = .ok (.invokevirtual 211, 3) := by decide +kernel
theorem dX10_candles_5 : decode cX10_candles 5 = .ok (.aload_n 0, 1) := by decide +kernel
theorem dX10_candles_6 : decode cX10_candles 6 = .ok (.iload_n 2, 1) := by decide +kernel
theorem dX10_candles_7 : decode cX10_candles 7 = .ok (.iconst 1, 1) := by decide +kernel
theorem dX10_candles_8 : decode cX10_candles 8 = .ok (.iconst 5, 1) := by decide +kernel
theorem dX10_candles_9 : decode cX10_candles 9 = .ok (.invokevirtual 260, 3) := by decide +kernel
theorem dX10_candles_12 : decode cX10_candles 12 = .ok (.aload_n 0, 1) := by decide +kernel
theorem dX10_candles_13 : decode cX10_candles 13 = .ok (.iload_n 3, 1) := by decide +kernel
theorem dX10_candles_14 : decode cX10_candles 14 = .ok (.iconst 0, 1) := by decide +kernel
theorem dX10_candles_15 : decode cX10_candles 15 = .ok (.bipush 10, 2) := by decide +kernel
theorem dX10_candles_17 : decode cX10_candles 17 = .ok (.invokevirtual 260, 3) := by decide +kernel
theorem dX10_candles_20 : decode cX10_candles 20 = .ok (.iconst 0, 1) := by decide +kernel
theorem dX10_candles_21 : decode cX10_candles 21 = .ok (.istore 4, 2) := by decide +kernel
theorem dX10_candles_23 : decode cX10_candles 23 = .ok (.iconst 0, 1) := by decide +kernel
theorem dX10_candles_24 : decode cX10_candles 24 = .ok (.istore 5, 2) := by decide +kernel
theorem dX10_candles_26 : decode cX10_candles 26 = .ok (.iload 5, 2) := by decide +kernel
theorem dX10_candles_28 : decode cX10_candles 28 = .ok (.iconst 1, 1) := by decide +kernel
theorem dX10_candles_29 : decode cX10_candles 29 = .ok (.iload_n 2, 1) := by decide +kernel
theorem dX10_candles_30 : decode cX10_candles 30 = .ok (.ishl, 1) := by decide +kernel
theorem dX10_candles_31 : decode cX10_candles 31 = .ok (.if_icmp .ge 41, 3) := by decide +kernel
theorem dX10_candles_34 : decode cX10_candles 34 = .ok (.iload 5, 2) := by decide +kernel
theorem dX10_candles_36 : decode cX10_candles 36 = .ok (.iload_n 2, 1) := by decide +kernel
theorem dX10_candles_37 : decode cX10_candles 37 = .ok (.iload_n 3, 1) := by decide +kernel
theorem dX10_candles_38 : decode cX10_candles 38 = .ok (.invokestatic 358, 3) := by decide +kernel
theorem dX10_candles_41 : decode cX10_candles 41 = .ok (.istore 6, 2) := by decide +kernel
theorem dX10_candles_43 : decode cX10_candles 43 = .ok (.iload 6, 2) := by decide +kernel
theorem dX10_candles_45 : decode cX10_candles 45 = .ok (.ifCond .le 21, 3) := by decide +kernel
theorem dX10_candles_48 : decode cX10_candles 48 = .ok (.aload_n 0, 1) := by decide +kernel
theorem dX10_candles_49 : decode cX10_candles 49 = .ok (.iload_n 1, 1) := by decide +kernel
theorem dX10_candles_50 : decode cX10_candles 50 = .ok (.iload 5, 2) := by decide +kernel
theorem dX10_candles_52 : decode cX10_candles 52 = .ok (.iload_n 2, 1) := by decide +kernel
theorem dX10_candles_53 : decode cX10_candles 53 = .ok (.invokevirtual 362, 3) := by decide +kernel
theorem dX10_candles_56 : decode cX10_candles 56 = .ok (.ifCond .eq 10, 3) := by decide +kernel
theorem dX10_candles_59 : decode cX10_candles 59 = .ok (.iload 4, 2) := by decide +kernel
theorem dX10_candles_61 : decode cX10_candles 61 = .ok (.iload 6, 2) := by decide +kernel
theorem dX10_candles_63 : decode cX10_candles 63 = .ok (.iadd, 1) := by decide +kernel
theorem dX10_candles_64 : decode cX10_candles 64 = .ok (.istore 4, 2) := by decide +kernel
theorem dX10_candles_66 : decode cX10_candles 66 = .ok (.iinc 5 1, 3) := by decide +kernel
theorem dX10_candles_69 : decode cX10_candles 69 = .ok (.goto (-43), 3) := by decide +kernel
theorem dX10_candles_72 : decode cX10_candles 72 = .ok (.iload 4, 2) := by decide +kernel
theorem dX10_candles_74 : decode cX10_candles 74 = .ok (.ireturn, 1) := by decide +kernel
theorem dX10_weightOf_0 : decode cX10_weightOf 0 = .ok (.iconst 1, 1) := by decide +kernel
theorem dX10_weightOf_1 : decode cX10_weightOf 1 = .ok (.istore_n 3, 1) := by decide +kernel
theorem dX10_weightOf_2 : decode cX10_weightOf 2 = .ok (.iconst 0, 1) := by decide +kernel
theorem dX10_weightOf_3 : decode cX10_weightOf 3 = .ok (.istore 4, 2) := by decide +kernel
theorem dX10_weightOf_5 : decode cX10_weightOf 5 = .ok (.iload 4, 2) := by decide +kernel
theorem dX10_weightOf_7 : decode cX10_weightOf 7 = .ok (.iload_n 1, 1) := by decide +kernel
theorem dX10_weightOf_8 : decode cX10_weightOf 8 = .ok (.if_icmp .ge 29, 3) := by decide +kernel
theorem dX10_weightOf_11 : decode cX10_weightOf 11 = .ok (.iload_n 3, 1) := by decide +kernel
theorem dX10_weightOf_12 : decode cX10_weightOf 12 = .ok (.iload_n 0, 1) := by decide +kernel
theorem dX10_weightOf_13 : decode cX10_weightOf 13 = .ok (.iload 4, 2) := by decide +kernel
theorem dX10_weightOf_15 : decode cX10_weightOf 15 = .ok (.invokestatic 366, 3) := by decide +kernel
theorem dX10_weightOf_18 : decode cX10_weightOf 18 = .ok (.ifCond .eq 10, 3) := by decide +kernel
theorem dX10_weightOf_21 : decode cX10_weightOf 21 = .ok (.bipush 10, 2) := by decide +kernel
theorem dX10_weightOf_23 : decode cX10_weightOf 23 = .ok (.iload_n 2, 1) := by decide +kernel
theorem dX10_weightOf_24 : decode cX10_weightOf 24 = .ok (.isub, 1) := by decide +kernel
theorem dX10_weightOf_25 : decode cX10_weightOf 25 = .ok (.goto 4, 3) := by decide +kernel
theorem dX10_weightOf_28 : decode cX10_weightOf 28 = .ok (.iload_n 2, 1) := by decide +kernel
theorem dX10_weightOf_29 : decode cX10_weightOf 29 = .ok (.imul, 1) := by decide +kernel
theorem dX10_weightOf_30 : decode cX10_weightOf 30 = .ok (.istore_n 3, 1) := by decide +kernel
theorem dX10_weightOf_31 : decode cX10_weightOf 31 = .ok (.iinc 4 1, 3) := by decide +kernel
theorem dX10_weightOf_34 : decode cX10_weightOf 34 = .ok (.goto (-29), 3) := by decide +kernel
theorem dX10_weightOf_37 : decode cX10_weightOf 37 = .ok (.iload_n 3, 1) := by decide +kernel
theorem dX10_weightOf_38 : decode cX10_weightOf 38 = .ok (.ireturn, 1) := by decide +kernel
theorem dX10_hasComeBy_0 : decode cX10_hasComeBy 0 = .ok (.aload_n 0, 1) := by decide +kernel
theorem dX10_hasComeBy_1 : decode cX10_hasComeBy 1 = .ok (.getfield 79, 3) := by decide +kernel
theorem dX10_hasComeBy_4 : decode cX10_hasComeBy 4 = .ok (.aload_n 0, 1) := by decide +kernel
theorem dX10_hasComeBy_5 : decode cX10_hasComeBy 5 = .ok (.getfield 26, 3) := by decide +kernel
theorem dX10_hasComeBy_8 : decode cX10_hasComeBy 8 = .ok (.aload_n 0, 1) := by decide +kernel
theorem dX10_hasComeBy_9 : decode cX10_hasComeBy 9 = .ok (.getfield 45, 3) := by decide +kernel
theorem dX10_hasComeBy_12 : decode cX10_hasComeBy 12 = .ok (.invokevirtual 264, 3) := by decide +kernel
theorem dX10_hasComeBy_15 : decode cX10_hasComeBy 15 = .ok (.iconst 0, 1) := by decide +kernel
theorem dX10_hasComeBy_16 : decode cX10_hasComeBy 16 = .ok (.istore 4, 2) := by decide +kernel
theorem dX10_hasComeBy_18 : decode cX10_hasComeBy 18 = .ok (.iload 4, 2) := by decide +kernel
theorem dX10_hasComeBy_20 : decode cX10_hasComeBy 20 = .ok (.iload_n 3, 1) := by decide +kernel
theorem dX10_hasComeBy_21 : decode cX10_hasComeBy 21 = .ok (.if_icmp .ge 22, 3) := by decide +kernel
theorem dX10_hasComeBy_24 : decode cX10_hasComeBy 24 = .ok (.aload_n 0, 1) := by decide +kernel
theorem dX10_hasComeBy_25 : decode cX10_hasComeBy 25 = .ok (.getfield 79, 3) := by decide +kernel
theorem dX10_hasComeBy_28 : decode cX10_hasComeBy 28 = .ok (.iload_n 2, 1) := by decide +kernel
theorem dX10_hasComeBy_29 : decode cX10_hasComeBy 29 = .ok (.iload 4, 2) := by decide +kernel
theorem dX10_hasComeBy_31 : decode cX10_hasComeBy 31 = .ok (.invokestatic 366, 3) := by decide +kernel
theorem dX10_hasComeBy_34 : decode cX10_hasComeBy 34 = .ok (.invokevirtual 268, 3) := by decide +kernel
theorem dX10_hasComeBy_37 : decode cX10_hasComeBy 37 = .ok (.iinc 4 1, 3) := by decide +kernel
theorem dX10_hasComeBy_40 : decode cX10_hasComeBy 40 = .ok (.goto (-22), 3) := by decide +kernel
theorem dX10_hasComeBy_43 : decode cX10_hasComeBy 43 = .ok (.aload_n 0, 1) := by decide +kernel
theorem dX10_hasComeBy_44 : decode cX10_hasComeBy 44 = .ok (.getfield 79, 3) := by decide +kernel
theorem dX10_hasComeBy_47 : decode cX10_hasComeBy 47 = .ok (.getfield 242, 3) := by decide +kernel
theorem dX10_hasComeBy_50 : decode cX10_hasComeBy 50 = .ok (.getfield 220, 3) := by decide +kernel
theorem dX10_hasComeBy_53 : decode cX10_hasComeBy 53 = .ok (.iload_n 1, 1) := by decide +kernel
theorem dX10_hasComeBy_54 : decode cX10_hasComeBy 54 = .ok (.iaload, 1) := by decide +kernel
theorem dX10_hasComeBy_55 : decode cX10_hasComeBy 55 = .ok (.iconst (-1), 1) := by decide +kernel
theorem dX10_hasComeBy_56 : decode cX10_hasComeBy 56 = .ok (.if_icmp .ne 7, 3) := by decide +kernel
theorem dX10_hasComeBy_59 : decode cX10_hasComeBy 59 = .ok (.iconst 1, 1) := by decide +kernel
theorem dX10_hasComeBy_60 : decode cX10_hasComeBy 60 = .ok (.goto 4, 3) := by decide +kernel
theorem dX10_hasComeBy_63 : decode cX10_hasComeBy 63 = .ok (.iconst 0, 1) := by decide +kernel
theorem dX10_hasComeBy_64 : decode cX10_hasComeBy 64 = .ok (.ireturn, 1) := by decide +kernel
theorem dX10_isLit_0 : decode cX10_isLit 0 = .ok (.iload_n 0, 1) := by decide +kernel
theorem dX10_isLit_1 : decode cX10_isLit 1 = .ok (.iload_n 1, 1) := by decide +kernel
theorem dX10_isLit_2 : decode cX10_isLit 2 = .ok (.iushr, 1) := by decide +kernel
theorem dX10_isLit_3 : decode cX10_isLit 3 = .ok (.iconst 1, 1) := by decide +kernel
theorem dX10_isLit_4 : decode cX10_isLit 4 = .ok (.iand, 1) := by decide +kernel
theorem dX10_isLit_5 : decode cX10_isLit 5 = .ok (.ifCond .eq 7, 3) := by decide +kernel
theorem dX10_isLit_8 : decode cX10_isLit 8 = .ok (.iconst 1, 1) := by decide +kernel
theorem dX10_isLit_9 : decode cX10_isLit 9 = .ok (.goto 4, 3) := by decide +kernel
theorem dX10_isLit_12 : decode cX10_isLit 12 = .ok (.iconst 0, 1) := by decide +kernel
theorem dX10_isLit_13 : decode cX10_isLit 13 = .ok (.ireturn, 1) := by decide +kernel
theorem dX10_game_0 : decode cX10_game 0 = .ok (.aload_n 0, 1) := by decide +kernel
theorem dX10_game_1 : decode cX10_game 1 = .ok (.iload_n 1, 1) := by decide +kernel
theorem dX10_game_2 : decode cX10_game 2 = .ok (.invokevirtual 211, 3) := by decide +kernel
theorem dX10_game_5 : decode cX10_game 5 = .ok (.aload_n 0, 1) := by decide +kernel
theorem dX10_game_6 : decode cX10_game 6 = .ok (.iload_n 2, 1) := by decide +kernel
theorem dX10_game_7 : decode cX10_game 7 = .ok (.invokevirtual 211, 3) := by decide +kernel
theorem dX10_game_10 : decode cX10_game 10 = .ok (.aload_n 0, 1) := by decide +kernel
theorem dX10_game_11 : decode cX10_game 11 = .ok (.iload_n 3, 1) := by decide +kernel
theorem dX10_game_12 : decode cX10_game 12 = .ok (.iconst 2, 1) := by decide +kernel
theorem dX10_game_13 : decode cX10_game 13 = .ok (.invokevirtual 140, 3) := by decide +kernel
theorem dX10_game_16 : decode cX10_game 16 = .ok (.iload_n 1, 1) := by decide +kernel
theorem dX10_game_17 : decode cX10_game 17 = .ok (.iload_n 2, 1) := by decide +kernel
theorem dX10_game_18 : decode cX10_game 18 = .ok (.if_icmp .ne 14, 3) := by decide +kernel
theorem dX10_game_21 : decode cX10_game 21 = .ok (.new 117, 3) := by decide +kernel
theorem dX10_game_24 : decode cX10_game 24 = .ok (.dup, 1) := by decide +kernel
theorem dX10_game_25 : decode cX10_game 25 = .ok (.ldc_w 369, 3) := by decide +kernel
theorem dX10_game_28 : decode cX10_game 28 = .ok (.invokespecial 121, 3) := by decide +kernel
theorem dX10_game_31 : decode cX10_game 31 = .ok (.athrow, 1) := by decide +kernel
theorem dX10_game_32 : decode cX10_game 32 = .ok (.aload_n 0, 1) := by decide +kernel
theorem dX10_game_33 : decode cX10_game 33 = .ok (.getfield 45, 3) := by decide +kernel
theorem dX10_game_36 : decode cX10_game 36 = .ok (.getfield 220, 3) := by decide +kernel
theorem dX10_game_39 : decode cX10_game 39 = .ok (.iload_n 1, 1) := by decide +kernel
theorem dX10_game_40 : decode cX10_game 40 = .ok (.iaload, 1) := by decide +kernel
theorem dX10_game_41 : decode cX10_game 41 = .ok (.iconst (-1), 1) := by decide +kernel
theorem dX10_game_42 : decode cX10_game 42 = .ok (.if_icmp .eq 16, 3) := by decide +kernel
theorem dX10_game_45 : decode cX10_game 45 = .ok (.aload_n 0, 1) := by decide +kernel
theorem dX10_game_46 : decode cX10_game 46 = .ok (.getfield 45, 3) := by decide +kernel
theorem dX10_game_49 : decode cX10_game 49 = .ok (.getfield 220, 3) := by decide +kernel
theorem dX10_game_52 : decode cX10_game 52 = .ok (.iload_n 2, 1) := by decide +kernel
theorem dX10_game_53 : decode cX10_game 53 = .ok (.iaload, 1) := by decide +kernel
theorem dX10_game_54 : decode cX10_game 54 = .ok (.iconst (-1), 1) := by decide +kernel
theorem dX10_game_55 : decode cX10_game 55 = .ok (.if_icmp .ne 5, 3) := by decide +kernel
theorem dX10_game_58 : decode cX10_game 58 = .ok (.iconst (-1), 1) := by decide +kernel
theorem dX10_game_59 : decode cX10_game 59 = .ok (.ireturn, 1) := by decide +kernel
theorem dX10_game_60 : decode cX10_game 60 = .ok (.iconst 0, 1) := by decide +kernel
theorem dX10_game_61 : decode cX10_game 61 = .ok (.istore 4, 2) := by decide +kernel
theorem dX10_game_63 : decode cX10_game 63 = .ok (.iload 4, 2) := by decide +kernel
theorem dX10_game_65 : decode cX10_game 65 = .ok (.iconst 4, 1) := by decide +kernel
theorem dX10_game_66 : decode cX10_game 66 = .ok (.if_icmp .ge 17, 3) := by decide +kernel
theorem dX10_game_69 : decode cX10_game 69 = .ok (.aload_n 0, 1) := by decide +kernel
theorem dX10_game_70 : decode cX10_game 70 = .ok (.iload_n 1, 1) := by decide +kernel
theorem dX10_game_71 : decode cX10_game 71 = .ok (.iload_n 2, 1) := by decide +kernel
theorem dX10_game_72 : decode cX10_game 72 = .ok (.iload 4, 2) := by decide +kernel
theorem dX10_game_74 : decode cX10_game 74 = .ok (.invokevirtual 371, 3) := by decide +kernel
theorem dX10_game_77 : decode cX10_game 77 = .ok (.iinc 4 1, 3) := by decide +kernel
theorem dX10_game_80 : decode cX10_game 80 = .ok (.goto (-17), 3) := by decide +kernel
theorem dX10_game_83 : decode cX10_game 83 = .ok (.iconst 0, 1) := by decide +kernel
theorem dX10_game_84 : decode cX10_game 84 = .ok (.istore 4, 2) := by decide +kernel
theorem dX10_game_86 : decode cX10_game 86 = .ok (.iconst (-1), 1) := by decide +kernel
theorem dX10_game_87 : decode cX10_game 87 = .ok (.istore 5, 2) := by decide +kernel
theorem dX10_game_89 : decode cX10_game 89 = .ok (.iconst 0, 1) := by decide +kernel
theorem dX10_game_90 : decode cX10_game 90 = .ok (.istore 6, 2) := by decide +kernel
theorem dX10_game_92 : decode cX10_game 92 = .ok (.iload 6, 2) := by decide +kernel
theorem dX10_game_94 : decode cX10_game 94 = .ok (.iconst 4, 1) := by decide +kernel
theorem dX10_game_95 : decode cX10_game 95 = .ok (.if_icmp .ge 45, 3) := by decide +kernel
theorem dX10_game_98 : decode cX10_game 98 = .ok (.aload_n 0, 1) := by decide +kernel
theorem dX10_game_99 : decode cX10_game 99 = .ok (.iload 6, 2) := by decide +kernel
theorem dX10_game_101 : decode cX10_game 101 = .ok (.invokevirtual 374, 3) := by decide +kernel
theorem dX10_game_104 : decode cX10_game 104 = .ok (.ifCond .eq 30, 3) := by decide +kernel
theorem dX10_game_107 : decode cX10_game 107 = .ok (.iload 4, 2) := by decide +kernel
theorem dX10_game_109 : decode cX10_game 109 = .ok (.ifCond .ne 18, 3) := by decide +kernel
theorem dX10_game_112 : decode cX10_game 112 = .ok (.iload 6, 2) := by decide +kernel
theorem dX10_game_114 : decode cX10_game 114 = .ok (.iconst 2, 1) := by decide +kernel
theorem dX10_game_115 : decode cX10_game 115 = .ok (.idiv, 1) := by decide +kernel
theorem dX10_game_116 : decode cX10_game 116 = .ok (.bipush 10, 2) := by decide +kernel
theorem dX10_game_118 : decode cX10_game 118 = .ok (.imul, 1) := by decide +kernel
theorem dX10_game_119 : decode cX10_game 119 = .ok (.iload 6, 2) := by decide +kernel
theorem dX10_game_121 : decode cX10_game 121 = .ok (.iconst 2, 1) := by decide +kernel
theorem dX10_game_122 : decode cX10_game 122 = .ok (.irem, 1) := by decide +kernel
theorem dX10_game_123 : decode cX10_game 123 = .ok (.iadd, 1) := by decide +kernel
theorem dX10_game_124 : decode cX10_game 124 = .ok (.goto 5, 3) := by decide +kernel
theorem dX10_game_127 : decode cX10_game 127 = .ok (.iload 5, 2) := by decide +kernel
theorem dX10_game_129 : decode cX10_game 129 = .ok (.istore 5, 2) := by decide +kernel
theorem dX10_game_131 : decode cX10_game 131 = .ok (.iinc 4 1, 3) := by decide +kernel
theorem dX10_game_134 : decode cX10_game 134 = .ok (.iinc 6 1, 3) := by decide +kernel
theorem dX10_game_137 : decode cX10_game 137 = .ok (.goto (-45), 3) := by decide +kernel
theorem dX10_game_140 : decode cX10_game 140 = .ok (.iload_n 3, 1) := by decide +kernel
theorem dX10_game_141 : decode cX10_game 141 = .ok (.ifCond .ne 8, 3) := by decide +kernel
theorem dX10_game_144 : decode cX10_game 144 = .ok (.iload 4, 2) := by decide +kernel
theorem dX10_game_146 : decode cX10_game 146 = .ok (.goto 5, 3) := by decide +kernel
theorem dX10_game_149 : decode cX10_game 149 = .ok (.iload 5, 2) := by decide +kernel
theorem dX10_game_151 : decode cX10_game 151 = .ok (.ireturn, 1) := by decide +kernel
theorem dX10_play_0 : decode cX10_play 0 = .ok (.aload_n 0, 1) := by decide +kernel
theorem dX10_play_1 : decode cX10_play 1 = .ok (.getfield 79, 3) := by decide +kernel
theorem dX10_play_4 : decode cX10_play 4 = .ok (.aload_n 0, 1) := by decide +kernel
theorem dX10_play_5 : decode cX10_play 5 = .ok (.getfield 26, 3) := by decide +kernel
theorem dX10_play_8 : decode cX10_play 8 = .ok (.aload_n 0, 1) := by decide +kernel
theorem dX10_play_9 : decode cX10_play 9 = .ok (.getfield 45, 3) := by decide +kernel
theorem dX10_play_12 : decode cX10_play 12 = .ok (.invokevirtual 264, 3) := by decide +kernel
theorem dX10_play_15 : decode cX10_play 15 = .ok (.iload_n 3, 1) := by decide +kernel
theorem dX10_play_16 : decode cX10_play 16 = .ok (.iconst 2, 1) := by decide +kernel
theorem dX10_play_17 : decode cX10_play 17 = .ok (.idiv, 1) := by decide +kernel
theorem dX10_play_18 : decode cX10_play 18 = .ok (.iconst 1, 1) := by decide +kernel
theorem dX10_play_19 : decode cX10_play 19 = .ok (.if_icmp .ne 16, 3) := by decide +kernel
theorem dX10_play_22 : decode cX10_play 22 = .ok (.aload_n 0, 1) := by decide +kernel
theorem dX10_play_23 : decode cX10_play 23 = .ok (.getfield 79, 3) := by decide +kernel
theorem dX10_play_26 : decode cX10_play 26 = .ok (.getfield 242, 3) := by decide +kernel
theorem dX10_play_29 : decode cX10_play 29 = .ok (.getfield 220, 3) := by decide +kernel
theorem dX10_play_32 : decode cX10_play 32 = .ok (.iload_n 1, 1) := by decide +kernel
theorem dX10_play_33 : decode cX10_play 33 = .ok (.iconst (-1), 1) := by decide +kernel
theorem dX10_play_34 : decode cX10_play 34 = .ok (.iastore, 1) := by decide +kernel
theorem dX10_play_35 : decode cX10_play 35 = .ok (.iload_n 3, 1) := by decide +kernel
theorem dX10_play_36 : decode cX10_play 36 = .ok (.iconst 2, 1) := by decide +kernel
theorem dX10_play_37 : decode cX10_play 37 = .ok (.irem, 1) := by decide +kernel
theorem dX10_play_38 : decode cX10_play 38 = .ok (.iconst 1, 1) := by decide +kernel
theorem dX10_play_39 : decode cX10_play 39 = .ok (.if_icmp .ne 16, 3) := by decide +kernel
theorem dX10_play_42 : decode cX10_play 42 = .ok (.aload_n 0, 1) := by decide +kernel
theorem dX10_play_43 : decode cX10_play 43 = .ok (.getfield 79, 3) := by decide +kernel
theorem dX10_play_46 : decode cX10_play 46 = .ok (.getfield 242, 3) := by decide +kernel
theorem dX10_play_49 : decode cX10_play 49 = .ok (.getfield 220, 3) := by decide +kernel
theorem dX10_play_52 : decode cX10_play 52 = .ok (.iload_n 2, 1) := by decide +kernel
theorem dX10_play_53 : decode cX10_play 53 = .ok (.iconst (-1), 1) := by decide +kernel
theorem dX10_play_54 : decode cX10_play 54 = .ok (.iastore, 1) := by decide +kernel
theorem dX10_play_55 : decode cX10_play 55 = .ok (.iconst 0, 1) := by decide +kernel
theorem dX10_play_56 : decode cX10_play 56 = .ok (.istore 4, 2) := by decide +kernel
theorem dX10_play_58 : decode cX10_play 58 = .ok (.iload 4, 2) := by decide +kernel
theorem dX10_play_60 : decode cX10_play 60 = .ok (.bipush 6, 2) := by decide +kernel
theorem dX10_play_62 : decode cX10_play 62 = .ok (.if_icmp .ge 17, 3) := by decide +kernel
theorem dX10_play_65 : decode cX10_play 65 = .ok (.aload_n 0, 1) := by decide +kernel
theorem dX10_play_66 : decode cX10_play 66 = .ok (.getfield 79, 3) := by decide +kernel
theorem dX10_play_69 : decode cX10_play 69 = .ok (.iconst 1, 1) := by decide +kernel
theorem dX10_play_70 : decode cX10_play 70 = .ok (.invokevirtual 268, 3) := by decide +kernel
theorem dX10_play_73 : decode cX10_play 73 = .ok (.iinc 4 1, 3) := by decide +kernel
theorem dX10_play_76 : decode cX10_play 76 = .ok (.goto (-18), 3) := by decide +kernel
theorem dX10_play_79 : decode cX10_play 79 = .ok (.aload_n 0, 1) := by decide +kernel
theorem dX10_play_80 : decode cX10_play 80 = .ok (.getfield 110, 3) := by decide +kernel
theorem dX10_play_83 : decode cX10_play 83 = .ok (.iconst 0, 1) := by decide +kernel
theorem dX10_play_84 : decode cX10_play 84 = .ok (.aaload, 1) := by decide +kernel
theorem dX10_play_85 : decode cX10_play 85 = .ok (.iload_n 3, 1) := by decide +kernel
theorem dX10_play_86 : decode cX10_play 86 = .ok (.aload_n 0, 1) := by decide +kernel
theorem dX10_play_87 : decode cX10_play 87 = .ok (.iload_n 1, 1) := by decide +kernel
theorem dX10_play_88 : decode cX10_play 88 = .ok (.invokevirtual 377, 3) := by decide +kernel
theorem dX10_play_91 : decode cX10_play 91 = .ok (.iastore, 1) := by decide +kernel
theorem dX10_play_92 : decode cX10_play 92 = .ok (.aload_n 0, 1) := by decide +kernel
theorem dX10_play_93 : decode cX10_play 93 = .ok (.getfield 110, 3) := by decide +kernel
theorem dX10_play_96 : decode cX10_play 96 = .ok (.iconst 1, 1) := by decide +kernel
theorem dX10_play_97 : decode cX10_play 97 = .ok (.aaload, 1) := by decide +kernel
theorem dX10_play_98 : decode cX10_play 98 = .ok (.iload_n 3, 1) := by decide +kernel
theorem dX10_play_99 : decode cX10_play 99 = .ok (.aload_n 0, 1) := by decide +kernel
theorem dX10_play_100 : decode cX10_play 100 = .ok (.iload_n 2, 1) := by decide +kernel
theorem dX10_play_101 : decode cX10_play 101 = .ok (.invokevirtual 377, 3) := by decide +kernel
theorem dX10_play_104 : decode cX10_play 104 = .ok (.iastore, 1) := by decide +kernel
theorem dX10_play_105 : decode cX10_play 105 = .ok (.return_, 1) := by decide +kernel
theorem dX10_gainOf_0 : decode cX10_gainOf 0 = .ok (.aload_n 0, 1) := by decide +kernel
theorem dX10_gainOf_1 : decode cX10_gainOf 1 = .ok (.getfield 79, 3) := by decide +kernel
theorem dX10_gainOf_4 : decode cX10_gainOf 4 = .ok (.getfield 242, 3) := by decide +kernel
theorem dX10_gainOf_7 : decode cX10_gainOf 7 = .ok (.getfield 223, 3) := by decide +kernel
theorem dX10_gainOf_10 : decode cX10_gainOf 10 = .ok (.iload_n 1, 1) := by decide +kernel
theorem dX10_gainOf_11 : decode cX10_gainOf 11 = .ok (.iaload, 1) := by decide +kernel
theorem dX10_gainOf_12 : decode cX10_gainOf 12 = .ok (.aload_n 0, 1) := by decide +kernel
theorem dX10_gainOf_13 : decode cX10_gainOf 13 = .ok (.getfield 45, 3) := by decide +kernel
theorem dX10_gainOf_16 : decode cX10_gainOf 16 = .ok (.getfield 223, 3) := by decide +kernel
theorem dX10_gainOf_19 : decode cX10_gainOf 19 = .ok (.iload_n 1, 1) := by decide +kernel
theorem dX10_gainOf_20 : decode cX10_gainOf 20 = .ok (.iaload, 1) := by decide +kernel
theorem dX10_gainOf_21 : decode cX10_gainOf 21 = .ok (.isub, 1) := by decide +kernel
theorem dX10_gainOf_22 : decode cX10_gainOf 22 = .ok (.istore_n 2, 1) := by decide +kernel
theorem dX10_gainOf_23 : decode cX10_gainOf 23 = .ok (.iconst 2, 1) := by decide +kernel
theorem dX10_gainOf_24 : decode cX10_gainOf 24 = .ok (.iload_n 2, 1) := by decide +kernel
theorem dX10_gainOf_25 : decode cX10_gainOf 25 = .ok (.imul, 1) := by decide +kernel
theorem dX10_gainOf_26 : decode cX10_gainOf 26 = .ok (.aload_n 0, 1) := by decide +kernel
theorem dX10_gainOf_27 : decode cX10_gainOf 27 = .ok (.getfield 79, 3) := by decide +kernel
theorem dX10_gainOf_30 : decode cX10_gainOf 30 = .ok (.getfield 272, 3) := by decide +kernel
theorem dX10_gainOf_33 : decode cX10_gainOf 33 = .ok (.iload_n 1, 1) := by decide +kernel
theorem dX10_gainOf_34 : decode cX10_gainOf 34 = .ok (.iaload, 1) := by decide +kernel
theorem dX10_gainOf_35 : decode cX10_gainOf 35 = .ok (.ifCond .le 7, 3) := by decide +kernel
theorem dX10_gainOf_38 : decode cX10_gainOf 38 = .ok (.iconst 5, 1) := by decide +kernel
theorem dX10_gainOf_39 : decode cX10_gainOf 39 = .ok (.goto 4, 3) := by decide +kernel
theorem dX10_gainOf_42 : decode cX10_gainOf 42 = .ok (.iconst 0, 1) := by decide +kernel
theorem dX10_gainOf_43 : decode cX10_gainOf 43 = .ok (.iadd, 1) := by decide +kernel
theorem dX10_gainOf_44 : decode cX10_gainOf 44 = .ok (.ireturn, 1) := by decide +kernel
theorem dX10_rests_0 : decode cX10_rests 0 = .ok (.aload_n 0, 1) := by decide +kernel
theorem dX10_rests_1 : decode cX10_rests 1 = .ok (.getfield 110, 3) := by decide +kernel
theorem dX10_rests_4 : decode cX10_rests 4 = .ok (.iconst 0, 1) := by decide +kernel
theorem dX10_rests_5 : decode cX10_rests 5 = .ok (.aaload, 1) := by decide +kernel
theorem dX10_rests_6 : decode cX10_rests 6 = .ok (.iload_n 1, 1) := by decide +kernel
theorem dX10_rests_7 : decode cX10_rests 7 = .ok (.iaload, 1) := by decide +kernel
theorem dX10_rests_8 : decode cX10_rests 8 = .ok (.aload_n 0, 1) := by decide +kernel
theorem dX10_rests_9 : decode cX10_rests 9 = .ok (.getfield 110, 3) := by decide +kernel
theorem dX10_rests_12 : decode cX10_rests 12 = .ok (.iconst 0, 1) := by decide +kernel
theorem dX10_rests_13 : decode cX10_rests 13 = .ok (.aaload, 1) := by decide +kernel
theorem dX10_rests_14 : decode cX10_rests 14 = .ok (.iload_n 1, 1) := by decide +kernel
theorem dX10_rests_15 : decode cX10_rests 15 = .ok (.iconst 2, 1) := by decide +kernel
theorem dX10_rests_16 : decode cX10_rests 16 = .ok (.ixor, 1) := by decide +kernel
theorem dX10_rests_17 : decode cX10_rests 17 = .ok (.iaload, 1) := by decide +kernel
theorem dX10_rests_18 : decode cX10_rests 18 = .ok (.if_icmp .lt 28, 3) := by decide +kernel
theorem dX10_rests_21 : decode cX10_rests 21 = .ok (.aload_n 0, 1) := by decide +kernel
theorem dX10_rests_22 : decode cX10_rests 22 = .ok (.getfield 110, 3) := by decide +kernel
theorem dX10_rests_25 : decode cX10_rests 25 = .ok (.iconst 1, 1) := by decide +kernel
theorem dX10_rests_26 : decode cX10_rests 26 = .ok (.aaload, 1) := by decide +kernel
theorem dX10_rests_27 : decode cX10_rests 27 = .ok (.iload_n 1, 1) := by decide +kernel
theorem dX10_rests_28 : decode cX10_rests 28 = .ok (.iaload, 1) := by decide +kernel
theorem dX10_rests_29 : decode cX10_rests 29 = .ok (.aload_n 0, 1) := by decide +kernel
theorem dX10_rests_30 : decode cX10_rests 30 = .ok (.getfield 110, 3) := by decide +kernel
theorem dX10_rests_33 : decode cX10_rests 33 = .ok (.iconst 1, 1) := by decide +kernel
theorem dX10_rests_34 : decode cX10_rests 34 = .ok (.aaload, 1) := by decide +kernel
theorem dX10_rests_35 : decode cX10_rests 35 = .ok (.iload_n 1, 1) := by decide +kernel
theorem dX10_rests_36 : decode cX10_rests 36 = .ok (.iconst 1, 1) := by decide +kernel
theorem dX10_rests_37 : decode cX10_rests 37 = .ok (.ixor, 1) := by decide +kernel
theorem dX10_rests_38 : decode cX10_rests 38 = .ok (.iaload, 1) := by decide +kernel
theorem dX10_rests_39 : decode cX10_rests 39 = .ok (.if_icmp .lt 7, 3) := by decide +kernel
theorem dX10_rests_42 : decode cX10_rests 42 = .ok (.iconst 1, 1) := by decide +kernel
theorem dX10_rests_43 : decode cX10_rests 43 = .ok (.goto 4, 3) := by decide +kernel
theorem dX10_rests_46 : decode cX10_rests 46 = .ok (.iconst 0, 1) := by decide +kernel
theorem dX10_rests_47 : decode cX10_rests 47 = .ok (.ireturn, 1) := by decide +kernel
theorem dX10_years_0 : decode cX10_years 0 = .ok (.aload_n 0, 1) := by decide +kernel
theorem dX10_years_1 : decode cX10_years 1 = .ok (.iload_n 3, 1) := by decide +kernel
theorem dX10_years_2 : decode cX10_years 2 = .ok (.iconst 3, 1) := by decide +kernel
theorem dX10_years_3 : decode cX10_years 3 = .ok (.invokevirtual 140, 3) := by decide +kernel
theorem dX10_years_6 : decode cX10_years 6 = .ok (.aload_n 0, 1) := by decide +kernel
theorem dX10_years_7 : decode cX10_years 7 = .ok (.iload_n 2, 1) := by decide +kernel
theorem dX10_years_8 : decode cX10_years 8 = .ok (.iconst 0, 1) := by decide +kernel
theorem dX10_years_9 : decode cX10_years 9 = .ok (.bipush 60, 2) := by decide +kernel
theorem dX10_years_11 : decode cX10_years 11 = .ok (.invokevirtual 260, 3) := by decide +kernel
theorem dX10_years_14 : decode cX10_years 14 = .ok (.aload_n 0, 1) := by decide +kernel
theorem dX10_years_15 : decode cX10_years 15 = .ok (.getfield 79, 3) := by decide +kernel
theorem dX10_years_18 : decode cX10_years 18 = .ok (.aload_n 0, 1) := by decide +kernel
theorem dX10_years_19 : decode cX10_years 19 = .ok (.getfield 26, 3) := by decide +kernel
theorem dX10_years_22 : decode cX10_years 22 = .ok (.aload_n 0, 1) := by decide +kernel
theorem dX10_years_23 : decode cX10_years 23 = .ok (.getfield 45, 3) := by decide +kernel
theorem dX10_years_26 : decode cX10_years 26 = .ok (.invokevirtual 264, 3) := by decide +kernel
theorem dX10_years_29 : decode cX10_years 29 = .ok (.aload_n 0, 1) := by decide +kernel
theorem dX10_years_30 : decode cX10_years 30 = .ok (.getfield 100, 3) := by decide +kernel
theorem dX10_years_33 : decode cX10_years 33 = .ok (.iload_n 1, 1) := by decide +kernel
theorem dX10_years_34 : decode cX10_years 34 = .ok (.putfield 380, 3) := by decide +kernel
theorem dX10_years_37 : decode cX10_years 37 = .ok (.iconst 0, 1) := by decide +kernel
theorem dX10_years_38 : decode cX10_years 38 = .ok (.istore 4, 2) := by decide +kernel
theorem dX10_years_40 : decode cX10_years 40 = .ok (.iload 4, 2) := by decide +kernel
theorem dX10_years_42 : decode cX10_years 42 = .ok (.iload_n 2, 1) := by decide +kernel
theorem dX10_years_43 : decode cX10_years 43 = .ok (.if_icmp .ge 21, 3) := by decide +kernel
theorem dX10_years_46 : decode cX10_years 46 = .ok (.aload_n 0, 1) := by decide +kernel
theorem dX10_years_47 : decode cX10_years 47 = .ok (.invokevirtual 383, 3) := by decide +kernel
theorem dX10_years_50 : decode cX10_years 50 = .ok (.aload_n 0, 1) := by decide +kernel
theorem dX10_years_51 : decode cX10_years 51 = .ok (.getfield 79, 3) := by decide +kernel
theorem dX10_years_54 : decode cX10_years 54 = .ok (.iconst 1, 1) := by decide +kernel
theorem dX10_years_55 : decode cX10_years 55 = .ok (.invokevirtual 268, 3) := by decide +kernel
theorem dX10_years_58 : decode cX10_years 58 = .ok (.iinc 4 1, 3) := by decide +kernel
theorem dX10_years_61 : decode cX10_years 61 = .ok (.goto (-21), 3) := by decide +kernel
theorem dX10_years_64 : decode cX10_years 64 = .ok (.iload_n 3, 1) := by decide +kernel
theorem dX10_years_65 : decode cX10_years 65 = .ok (.lookupswitch 54 #[(0, 27), (1, 35)], 27) := by decide +kernel
theorem dX10_years_92 : decode cX10_years 92 = .ok (.aload_n 0, 1) := by decide +kernel
theorem dX10_years_93 : decode cX10_years 93 = .ok (.getfield 79, 3) := by decide +kernel
theorem dX10_years_96 : decode cX10_years 96 = .ok (.invokevirtual 386, 3) := by decide +kernel
theorem dX10_years_99 : decode cX10_years 99 = .ok (.ireturn, 1) := by decide +kernel
theorem dX10_years_100 : decode cX10_years 100 = .ok (.aload_n 0, 1) := by decide +kernel
theorem dX10_years_101 : decode cX10_years 101 = .ok (.getfield 79, 3) := by decide +kernel
theorem dX10_years_104 : decode cX10_years 104 = .ok (.getfield 242, 3) := by decide +kernel
theorem dX10_years_107 : decode cX10_years 107 = .ok (.invokevirtual 178, 3) := by decide +kernel
theorem dX10_years_110 : decode cX10_years 110 = .ok (.aload_n 0, 1) := by decide +kernel
theorem dX10_years_111 : decode cX10_years 111 = .ok (.getfield 45, 3) := by decide +kernel
theorem dX10_years_114 : decode cX10_years 114 = .ok (.invokevirtual 178, 3) := by decide +kernel
theorem dX10_years_117 : decode cX10_years 117 = .ok (.isub, 1) := by decide +kernel
theorem dX10_years_118 : decode cX10_years 118 = .ok (.ireturn, 1) := by decide +kernel
theorem dX10_years_119 : decode cX10_years 119 = .ok (.aload_n 0, 1) := by decide +kernel
theorem dX10_years_120 : decode cX10_years 120 = .ok (.aload_n 0, 1) := by decide +kernel
theorem dX10_years_121 : decode cX10_years 121 = .ok (.getfield 79, 3) := by decide +kernel
theorem dX10_years_124 : decode cX10_years 124 = .ok (.getfield 242, 3) := by decide +kernel
theorem dX10_years_127 : decode cX10_years 127 = .ok (.invokevirtual 171, 3) := by decide +kernel
theorem dX10_years_130 : decode cX10_years 130 = .ok (.ireturn, 1) := by decide +kernel
theorem dX10_drawWhatHappens_0 : decode cX10_drawWhatHappens 0 = .ok (.aload_n 0, 1) := by decide +kernel
theorem dX10_drawWhatHappens_1 : decode cX10_drawWhatHappens 1 = .ok (.getfield 100, 3) := by decide +kernel
theorem dX10_drawWhatHappens_4 : decode cX10_drawWhatHappens 4 = .ok (.iconst 5, 1) := by decide +kernel
theorem dX10_drawWhatHappens_5 : decode cX10_drawWhatHappens 5 = .ok (.invokevirtual 389, 3) := by decide +kernel
theorem dX10_drawWhatHappens_8 : decode cX10_drawWhatHappens 8 = .ok (.istore_n 1, 1) := by decide +kernel
theorem dX10_drawWhatHappens_9 : decode cX10_drawWhatHappens 9 = .ok (.iload_n 1, 1) := by decide +kernel
theorem dX10_drawWhatHappens_10 : decode cX10_drawWhatHappens 10 = .ok (.ifCond .ne 47, 3) := by decide +kernel
theorem dX10_drawWhatHappens_13 : decode cX10_drawWhatHappens 13 = .ok (.aload_n 0, 1) := by decide +kernel
theorem dX10_drawWhatHappens_14 : decode cX10_drawWhatHappens 14 = .ok (.getfield 26, 3) := by decide +kernel
theorem dX10_drawWhatHappens_17 : decode cX10_drawWhatHappens 17 = .ok (.getfield 147, 3) := by decide +kernel
theorem dX10_drawWhatHappens_20 : decode cX10_drawWhatHappens 20 = .ok (.ifCond .le 37, 3) := by decide +kernel
theorem dX10_drawWhatHappens_23 : decode cX10_drawWhatHappens 23 = .ok (.aload_n 0, 1) := by decide +kernel
theorem dX10_drawWhatHappens_24 : decode cX10_drawWhatHappens 24 = .ok (.getfield 100, 3) := by decide +kernel
theorem dX10_drawWhatHappens_27 : decode cX10_drawWhatHappens 27 = .ok (.aload_n 0, 1) := by decide +kernel
theorem dX10_drawWhatHappens_28 : decode cX10_drawWhatHappens 28 = .ok (.getfield 26, 3) := by decide +kernel
theorem dX10_drawWhatHappens_31 : decode cX10_drawWhatHappens 31 = .ok (.getfield 147, 3) := by decide +kernel
theorem dX10_drawWhatHappens_34 : decode cX10_drawWhatHappens 34 = .ok (.invokevirtual 389, 3) := by decide +kernel
theorem dX10_drawWhatHappens_37 : decode cX10_drawWhatHappens 37 = .ok (.istore_n 2, 1) := by decide +kernel
theorem dX10_drawWhatHappens_38 : decode cX10_drawWhatHappens 38 = .ok (.aload_n 0, 1) := by decide +kernel
theorem dX10_drawWhatHappens_39 : decode cX10_drawWhatHappens 39 = .ok (.getfield 79, 3) := by decide +kernel
theorem dX10_drawWhatHappens_42 : decode cX10_drawWhatHappens 42 = .ok (.getfield 242, 3) := by decide +kernel
theorem dX10_drawWhatHappens_45 : decode cX10_drawWhatHappens 45 = .ok (.getfield 220, 3) := by decide +kernel
theorem dX10_drawWhatHappens_48 : decode cX10_drawWhatHappens 48 = .ok (.iload_n 2, 1) := by decide +kernel
theorem dX10_drawWhatHappens_49 : decode cX10_drawWhatHappens 49 = .ok (.aload_n 0, 1) := by decide +kernel
theorem dX10_drawWhatHappens_50 : decode cX10_drawWhatHappens 50 = .ok (.invokevirtual 392, 3) := by decide +kernel
theorem dX10_drawWhatHappens_53 : decode cX10_drawWhatHappens 53 = .ok (.iastore, 1) := by decide +kernel
theorem dX10_drawWhatHappens_54 : decode cX10_drawWhatHappens 54 = .ok (.goto 42, 3) := by decide +kernel
theorem dX10_drawWhatHappens_57 : decode cX10_drawWhatHappens 57 = .ok (.iload_n 1, 1) := by decide +kernel
theorem dX10_drawWhatHappens_58 : decode cX10_drawWhatHappens 58 = .ok (.iconst 1, 1) := by decide +kernel
theorem dX10_drawWhatHappens_59 : decode cX10_drawWhatHappens 59 = .ok (.if_icmp .ne 37, 3) := by decide +kernel
theorem dX10_drawWhatHappens_62 : decode cX10_drawWhatHappens 62 = .ok (.aload_n 0, 1) := by decide +kernel
theorem dX10_drawWhatHappens_63 : decode cX10_drawWhatHappens 63 = .ok (.getfield 26, 3) := by decide +kernel
theorem dX10_drawWhatHappens_66 : decode cX10_drawWhatHappens 66 = .ok (.getfield 144, 3) := by decide +kernel
theorem dX10_drawWhatHappens_69 : decode cX10_drawWhatHappens 69 = .ok (.ifCond .le 27, 3) := by decide +kernel
theorem dX10_drawWhatHappens_72 : decode cX10_drawWhatHappens 72 = .ok (.aload_n 0, 1) := by decide +kernel
theorem dX10_drawWhatHappens_73 : decode cX10_drawWhatHappens 73 = .ok (.invokevirtual 392, 3) := by decide +kernel
theorem dX10_drawWhatHappens_76 : decode cX10_drawWhatHappens 76 = .ok (.istore_n 2, 1) := by decide +kernel
theorem dX10_drawWhatHappens_77 : decode cX10_drawWhatHappens 77 = .ok (.aload_n 0, 1) := by decide +kernel
theorem dX10_drawWhatHappens_78 : decode cX10_drawWhatHappens 78 = .ok (.getfield 79, 3) := by decide +kernel
theorem dX10_drawWhatHappens_81 : decode cX10_drawWhatHappens 81 = .ok (.getfield 242, 3) := by decide +kernel
theorem dX10_drawWhatHappens_84 : decode cX10_drawWhatHappens 84 = .ok (.iload_n 2, 1) := by decide +kernel
theorem dX10_drawWhatHappens_85 : decode cX10_drawWhatHappens 85 = .ok (.aload_n 0, 1) := by decide +kernel
theorem dX10_drawWhatHappens_86 : decode cX10_drawWhatHappens 86 = .ok (.getfield 100, 3) := by decide +kernel
theorem dX10_drawWhatHappens_89 : decode cX10_drawWhatHappens 89 = .ok (.iconst 4, 1) := by decide +kernel
theorem dX10_drawWhatHappens_90 : decode cX10_drawWhatHappens 90 = .ok (.invokevirtual 389, 3) := by decide +kernel
theorem dX10_drawWhatHappens_93 : decode cX10_drawWhatHappens 93 = .ok (.invokevirtual 245, 3) := by decide +kernel
theorem dX10_drawWhatHappens_96 : decode cX10_drawWhatHappens 96 = .ok (.return_, 1) := by decide +kernel
theorem dX10_drawPlace_0 : decode cX10_drawPlace 0 = .ok (.aload_n 0, 1) := by decide +kernel
theorem dX10_drawPlace_1 : decode cX10_drawPlace 1 = .ok (.getfield 100, 3) := by decide +kernel
theorem dX10_drawPlace_4 : decode cX10_drawPlace 4 = .ok (.aload_n 0, 1) := by decide +kernel
theorem dX10_drawPlace_5 : decode cX10_drawPlace 5 = .ok (.getfield 26, 3) := by decide +kernel
theorem dX10_drawPlace_8 : decode cX10_drawPlace 8 = .ok (.getfield 144, 3) := by decide +kernel
theorem dX10_drawPlace_11 : decode cX10_drawPlace 11 = .ok (.invokevirtual 389, 3) := by decide +kernel
theorem dX10_drawPlace_14 : decode cX10_drawPlace 14 = .ok (.istore_n 1, 1) := by decide +kernel
theorem dX10_drawPlace_15 : decode cX10_drawPlace 15 = .ok (.bipush 8, 2) := by decide +kernel
theorem dX10_drawPlace_17 : decode cX10_drawPlace 17 = .ok (.iload_n 1, 1) := by decide +kernel
theorem dX10_drawPlace_18 : decode cX10_drawPlace 18 = .ok (.imul, 1) := by decide +kernel
theorem dX10_drawPlace_19 : decode cX10_drawPlace 19 = .ok (.aload_n 0, 1) := by decide +kernel
theorem dX10_drawPlace_20 : decode cX10_drawPlace 20 = .ok (.getfield 100, 3) := by decide +kernel
theorem dX10_drawPlace_23 : decode cX10_drawPlace 23 = .ok (.aload_n 0, 1) := by decide +kernel
theorem dX10_drawPlace_24 : decode cX10_drawPlace 24 = .ok (.getfield 26, 3) := by decide +kernel
theorem dX10_drawPlace_27 : decode cX10_drawPlace 27 = .ok (.getfield 188, 3) := by decide +kernel
theorem dX10_drawPlace_30 : decode cX10_drawPlace 30 = .ok (.iload_n 1, 1) := by decide +kernel
theorem dX10_drawPlace_31 : decode cX10_drawPlace 31 = .ok (.iaload, 1) := by decide +kernel
theorem dX10_drawPlace_32 : decode cX10_drawPlace 32 = .ok (.invokevirtual 389, 3) := by decide +kernel
theorem dX10_drawPlace_35 : decode cX10_drawPlace 35 = .ok (.iadd, 1) := by decide +kernel
theorem dX10_drawPlace_36 : decode cX10_drawPlace 36 = .ok (.ireturn, 1) := by decide +kernel
theorem dX10_image_0 : decode cX10_image 0 = .ok (.aload_n 0, 1) := by decide +kernel
theorem dX10_image_1 : decode cX10_image 1 = .ok (.getfield 67, 3) := by decide +kernel
theorem dX10_image_4 : decode cX10_image 4 = .ok (.aload_n 0, 1) := by decide +kernel
theorem dX10_image_5 : decode cX10_image 5 = .ok (.getfield 45, 3) := by decide +kernel
theorem dX10_image_8 : decode cX10_image 8 = .ok (.invokevirtual 132, 3) := by decide +kernel
theorem dX10_image_11 : decode cX10_image 11 = .ok (.aload_n 0, 1) := by decide +kernel
theorem dX10_image_12 : decode cX10_image 12 = .ok (.getfield 70, 3) := by decide +kernel
theorem dX10_image_15 : decode cX10_image 15 = .ok (.aload_n 0, 1) := by decide +kernel
theorem dX10_image_16 : decode cX10_image 16 = .ok (.getfield 52, 3) := by decide +kernel
theorem dX10_image_19 : decode cX10_image 19 = .ok (.invokevirtual 395, 3) := by decide +kernel
theorem dX10_image_22 : decode cX10_image 22 = .ok (.aload_n 0, 1) := by decide +kernel
theorem dX10_image_23 : decode cX10_image 23 = .ok (.getfield 73, 3) := by decide +kernel
theorem dX10_image_26 : decode cX10_image 26 = .ok (.aload_n 0, 1) := by decide +kernel
theorem dX10_image_27 : decode cX10_image 27 = .ok (.getfield 59, 3) := by decide +kernel
theorem dX10_image_30 : decode cX10_image 30 = .ok (.invokevirtual 398, 3) := by decide +kernel
theorem dX10_image_33 : decode cX10_image 33 = .ok (.aload_n 0, 1) := by decide +kernel
theorem dX10_image_34 : decode cX10_image 34 = .ok (.iconst 1, 1) := by decide +kernel
theorem dX10_image_35 : decode cX10_image 35 = .ok (.putfield 63, 3) := by decide +kernel
theorem dX10_image_38 : decode cX10_image 38 = .ok (.return_, 1) := by decide +kernel
theorem dX10_restore_0 : decode cX10_restore 0 = .ok (.aload_n 0, 1) := by decide +kernel
theorem dX10_restore_1 : decode cX10_restore 1 = .ok (.getfield 63, 3) := by decide +kernel
theorem dX10_restore_4 : decode cX10_restore 4 = .ok (.ifCond .ne 5, 3) := by decide +kernel
theorem dX10_restore_7 : decode cX10_restore 7 = .ok (.iconst 0, 1) := by decide +kernel
theorem dX10_restore_8 : decode cX10_restore 8 = .ok (.ireturn, 1) := by decide +kernel
theorem dX10_restore_9 : decode cX10_restore 9 = .ok (.aload_n 0, 1) := by decide +kernel
theorem dX10_restore_10 : decode cX10_restore 10 = .ok (.getfield 45, 3) := by decide +kernel
theorem dX10_restore_13 : decode cX10_restore 13 = .ok (.aload_n 0, 1) := by decide +kernel
theorem dX10_restore_14 : decode cX10_restore 14 = .ok (.getfield 67, 3) := by decide +kernel
theorem dX10_restore_17 : decode cX10_restore 17 = .ok (.invokevirtual 132, 3) := by decide +kernel
theorem dX10_restore_20 : decode cX10_restore 20 = .ok (.aload_n 0, 1) := by decide +kernel
theorem dX10_restore_21 : decode cX10_restore 21 = .ok (.getfield 52, 3) := by decide +kernel
theorem dX10_restore_24 : decode cX10_restore 24 = .ok (.aload_n 0, 1) := by decide +kernel
theorem dX10_restore_25 : decode cX10_restore 25 = .ok (.getfield 70, 3) := by decide +kernel
theorem dX10_restore_28 : decode cX10_restore 28 = .ok (.invokevirtual 395, 3) := by decide +kernel
theorem dX10_restore_31 : decode cX10_restore 31 = .ok (.aload_n 0, 1) := by decide +kernel
theorem dX10_restore_32 : decode cX10_restore 32 = .ok (.getfield 59, 3) := by decide +kernel
theorem dX10_restore_35 : decode cX10_restore 35 = .ok (.aload_n 0, 1) := by decide +kernel
theorem dX10_restore_36 : decode cX10_restore 36 = .ok (.getfield 73, 3) := by decide +kernel
theorem dX10_restore_39 : decode cX10_restore 39 = .ok (.invokevirtual 398, 3) := by decide +kernel
theorem dX10_restore_42 : decode cX10_restore 42 = .ok (.iconst 1, 1) := by decide +kernel
theorem dX10_restore_43 : decode cX10_restore 43 = .ok (.ireturn, 1) := by decide +kernel
theorem dX10_needWhat_0 : decode cX10_needWhat 0 = .ok (.iload_n 1, 1) := by decide +kernel
theorem dX10_needWhat_1 : decode cX10_needWhat 1 = .ok (.ifCond .lt 8, 3) := by decide +kernel
theorem dX10_needWhat_4 : decode cX10_needWhat 4 = .ok (.iload_n 1, 1) := by decide +kernel
theorem dX10_needWhat_5 : decode cX10_needWhat 5 = .ok (.iload_n 2, 1) := by decide +kernel
theorem dX10_needWhat_6 : decode cX10_needWhat 6 = .ok (.if_icmp .lt 14, 3) := by decide +kernel
theorem dX10_needWhat_9 : decode cX10_needWhat 9 = .ok (.new 401, 3) := by decide +kernel
theorem dX10_needWhat_12 : decode cX10_needWhat 12 = .ok (.dup, 1) := by decide +kernel
theorem dX10_needWhat_13 : decode cX10_needWhat 13 = .ok (.ldc_w 403, 3) := by decide +kernel
theorem dX10_needWhat_16 : decode cX10_needWhat 16 = .ok (.invokespecial 405, 3) := by decide +kernel
theorem dX10_needWhat_19 : decode cX10_needWhat 19 = .ok (.athrow, 1) := by decide +kernel
theorem dX10_needWhat_20 : decode cX10_needWhat 20 = .ok (.return_, 1) := by decide +kernel
theorem dX10_needPerson_0 : decode cX10_needPerson 0 = .ok (.iload_n 1, 1) := by decide +kernel
theorem dX10_needPerson_1 : decode cX10_needPerson 1 = .ok (.ifCond .lt 14, 3) := by decide +kernel
theorem dX10_needPerson_4 : decode cX10_needPerson 4 = .ok (.iload_n 1, 1) := by decide +kernel
theorem dX10_needPerson_5 : decode cX10_needPerson 5 = .ok (.aload_n 0, 1) := by decide +kernel
theorem dX10_needPerson_6 : decode cX10_needPerson 6 = .ok (.getfield 26, 3) := by decide +kernel
theorem dX10_needPerson_9 : decode cX10_needPerson 9 = .ok (.getfield 147, 3) := by decide +kernel
theorem dX10_needPerson_12 : decode cX10_needPerson 12 = .ok (.if_icmp .lt 14, 3) := by decide +kernel
theorem dX10_needPerson_15 : decode cX10_needPerson 15 = .ok (.new 401, 3) := by decide +kernel
theorem dX10_needPerson_18 : decode cX10_needPerson 18 = .ok (.dup, 1) := by decide +kernel
theorem dX10_needPerson_19 : decode cX10_needPerson 19 = .ok (.ldc_w 406, 3) := by decide +kernel
theorem dX10_needPerson_22 : decode cX10_needPerson 22 = .ok (.invokespecial 405, 3) := by decide +kernel
theorem dX10_needPerson_25 : decode cX10_needPerson 25 = .ok (.athrow, 1) := by decide +kernel
theorem dX10_needPerson_26 : decode cX10_needPerson 26 = .ok (.return_, 1) := by decide +kernel
theorem dX10_needDeed_0 : decode cX10_needDeed 0 = .ok (.iload_n 1, 1) := by decide +kernel
theorem dX10_needDeed_1 : decode cX10_needDeed 1 = .ok (.ifCond .lt 14, 3) := by decide +kernel
theorem dX10_needDeed_4 : decode cX10_needDeed 4 = .ok (.iload_n 1, 1) := by decide +kernel
theorem dX10_needDeed_5 : decode cX10_needDeed 5 = .ok (.aload_n 0, 1) := by decide +kernel
theorem dX10_needDeed_6 : decode cX10_needDeed 6 = .ok (.getfield 26, 3) := by decide +kernel
theorem dX10_needDeed_9 : decode cX10_needDeed 9 = .ok (.getfield 144, 3) := by decide +kernel
theorem dX10_needDeed_12 : decode cX10_needDeed 12 = .ok (.if_icmp .lt 14, 3) := by decide +kernel
theorem dX10_needDeed_15 : decode cX10_needDeed 15 = .ok (.new 401, 3) := by decide +kernel
theorem dX10_needDeed_18 : decode cX10_needDeed 18 = .ok (.dup, 1) := by decide +kernel
theorem dX10_needDeed_19 : decode cX10_needDeed 19 = .ok (.ldc_w 408, 3) := by decide +kernel
theorem dX10_needDeed_22 : decode cX10_needDeed 22 = .ok (.invokespecial 405, 3) := by decide +kernel
theorem dX10_needDeed_25 : decode cX10_needDeed 25 = .ok (.athrow, 1) := by decide +kernel
theorem dX10_needDeed_26 : decode cX10_needDeed 26 = .ok (.return_, 1) := by decide +kernel
theorem dX10_needWithin_0 : decode cX10_needWithin 0 = .ok (.iload_n 1, 1) := by decide +kernel
theorem dX10_needWithin_1 : decode cX10_needWithin 1 = .ok (.iload_n 2, 1) := by decide +kernel
theorem dX10_needWithin_2 : decode cX10_needWithin 2 = .ok (.if_icmp .lt 8, 3) := by decide +kernel
theorem dX10_needWithin_5 : decode cX10_needWithin 5 = .ok (.iload_n 1, 1) := by decide +kernel
theorem dX10_needWithin_6 : decode cX10_needWithin 6 = .ok (.iload_n 3, 1) := by decide +kernel
theorem dX10_needWithin_7 : decode cX10_needWithin 7 = .ok (.if_icmp .le 14, 3) := by decide +kernel
theorem dX10_needWithin_10 : decode cX10_needWithin 10 = .ok (.new 117, 3) := by decide +kernel
theorem dX10_needWithin_13 : decode cX10_needWithin 13 = .ok (.dup, 1) := by decide +kernel
theorem dX10_needWithin_14 : decode cX10_needWithin 14 = .ok (.ldc_w 410, 3) := by decide +kernel
theorem dX10_needWithin_17 : decode cX10_needWithin 17 = .ok (.invokespecial 121, 3) := by decide +kernel
theorem dX10_needWithin_20 : decode cX10_needWithin 20 = .ok (.athrow, 1) := by decide +kernel
theorem dX10_needWithin_21 : decode cX10_needWithin 21 = .ok (.return_, 1) := by decide +kernel
theorem dX10_inside_0 : decode cX10_inside 0 = .ok (.iload_n 1, 1) := by decide +kernel
theorem dX10_inside_1 : decode cX10_inside 1 = .ok (.ifCond .lt 36, 3) := by decide +kernel
theorem dX10_inside_4 : decode cX10_inside 4 = .ok (.iload_n 1, 1) := by decide +kernel
theorem dX10_inside_5 : decode cX10_inside 5 = .ok (.bipush 10, 2) := by decide +kernel
theorem dX10_inside_7 : decode cX10_inside 7 = .ok (.idiv, 1) := by decide +kernel
theorem dX10_inside_8 : decode cX10_inside 8 = .ok (.aload_n 0, 1) := by decide +kernel
theorem dX10_inside_9 : decode cX10_inside 9 = .ok (.getfield 26, 3) := by decide +kernel
theorem dX10_inside_12 : decode cX10_inside 12 = .ok (.getfield 144, 3) := by decide +kernel
theorem dX10_inside_15 : decode cX10_inside 15 = .ok (.if_icmp .ge 22, 3) := by decide +kernel
theorem dX10_inside_18 : decode cX10_inside 18 = .ok (.iload_n 1, 1) := by decide +kernel
theorem dX10_inside_19 : decode cX10_inside 19 = .ok (.bipush 10, 2) := by decide +kernel
theorem dX10_inside_21 : decode cX10_inside 21 = .ok (.irem, 1) := by decide +kernel
theorem dX10_inside_22 : decode cX10_inside 22 = .ok (.aload_n 0, 1) := by decide +kernel
theorem dX10_inside_23 : decode cX10_inside 23 = .ok (.getfield 26, 3) := by decide +kernel
theorem dX10_inside_26 : decode cX10_inside 26 = .ok (.getfield 188, 3) := by decide +kernel
theorem dX10_inside_29 : decode cX10_inside 29 = .ok (.iload_n 1, 1) := by decide +kernel
theorem dX10_inside_30 : decode cX10_inside 30 = .ok (.bipush 10, 2) := by decide +kernel
theorem dX10_inside_32 : decode cX10_inside 32 = .ok (.idiv, 1) := by decide +kernel
theorem dX10_inside_33 : decode cX10_inside 33 = .ok (.iaload, 1) := by decide +kernel
theorem dX10_inside_34 : decode cX10_inside 34 = .ok (.if_icmp .lt 14, 3) := by decide +kernel
theorem dX10_inside_37 : decode cX10_inside 37 = .ok (.new 401, 3) := by decide +kernel
theorem dX10_inside_40 : decode cX10_inside 40 = .ok (.dup, 1) := by decide +kernel
theorem dX10_inside_41 : decode cX10_inside 41 = .ok (.ldc_w 412, 3) := by decide +kernel
theorem dX10_inside_44 : decode cX10_inside 44 = .ok (.invokespecial 405, 3) := by decide +kernel
theorem dX10_inside_47 : decode cX10_inside 47 = .ok (.athrow, 1) := by decide +kernel
theorem dX10_inside_48 : decode cX10_inside 48 = .ok (.iload_n 1, 1) := by decide +kernel
theorem dX10_inside_49 : decode cX10_inside 49 = .ok (.bipush 10, 2) := by decide +kernel
theorem dX10_inside_51 : decode cX10_inside 51 = .ok (.idiv, 1) := by decide +kernel
theorem dX10_inside_52 : decode cX10_inside 52 = .ok (.bipush 8, 2) := by decide +kernel
theorem dX10_inside_54 : decode cX10_inside 54 = .ok (.imul, 1) := by decide +kernel
theorem dX10_inside_55 : decode cX10_inside 55 = .ok (.iload_n 1, 1) := by decide +kernel
theorem dX10_inside_56 : decode cX10_inside 56 = .ok (.bipush 10, 2) := by decide +kernel
theorem dX10_inside_58 : decode cX10_inside 58 = .ok (.irem, 1) := by decide +kernel
theorem dX10_inside_59 : decode cX10_inside 59 = .ok (.iadd, 1) := by decide +kernel
theorem dX10_inside_60 : decode cX10_inside 60 = .ok (.ireturn, 1) := by decide +kernel
theorem dX10_outside_0 : decode cX10_outside 0 = .ok (.iload_n 0, 1) := by decide +kernel
theorem dX10_outside_1 : decode cX10_outside 1 = .ok (.ifCond .ge 7, 3) := by decide +kernel
theorem dX10_outside_4 : decode cX10_outside 4 = .ok (.iconst (-1), 1) := by decide +kernel
theorem dX10_outside_5 : decode cX10_outside 5 = .ok (.goto 15, 3) := by decide +kernel
theorem dX10_outside_8 : decode cX10_outside 8 = .ok (.iload_n 0, 1) := by decide +kernel
theorem dX10_outside_9 : decode cX10_outside 9 = .ok (.bipush 8, 2) := by decide +kernel
theorem dX10_outside_11 : decode cX10_outside 11 = .ok (.idiv, 1) := by decide +kernel
theorem dX10_outside_12 : decode cX10_outside 12 = .ok (.bipush 10, 2) := by decide +kernel
theorem dX10_outside_14 : decode cX10_outside 14 = .ok (.imul, 1) := by decide +kernel
theorem dX10_outside_15 : decode cX10_outside 15 = .ok (.iload_n 0, 1) := by decide +kernel
theorem dX10_outside_16 : decode cX10_outside 16 = .ok (.bipush 8, 2) := by decide +kernel
theorem dX10_outside_18 : decode cX10_outside 18 = .ok (.irem, 1) := by decide +kernel
theorem dX10_outside_19 : decode cX10_outside 19 = .ok (.iadd, 1) := by decide +kernel
theorem dX10_outside_20 : decode cX10_outside 20 = .ok (.ireturn, 1) := by decide +kernel
theorem dX10_bit_0 : decode cX10_bit 0 = .ok (.lconst 1, 1) := by decide +kernel
theorem dX10_bit_1 : decode cX10_bit 1 = .ok (.iload_n 0, 1) := by decide +kernel
theorem dX10_bit_2 : decode cX10_bit 2 = .ok (.lshl, 1) := by decide +kernel
theorem dX10_bit_3 : decode cX10_bit 3 = .ok (.lreturn, 1) := by decide +kernel
theorem dX10_lowest_0 : decode cX10_lowest 0 = .ok (.lload_n 0, 1) := by decide +kernel
theorem dX10_lowest_1 : decode cX10_lowest 1 = .ok (.lconst 0, 1) := by decide +kernel
theorem dX10_lowest_2 : decode cX10_lowest 2 = .ok (.lcmp, 1) := by decide +kernel
theorem dX10_lowest_3 : decode cX10_lowest 3 = .ok (.ifCond .ne 7, 3) := by decide +kernel
theorem dX10_lowest_6 : decode cX10_lowest 6 = .ok (.iconst (-1), 1) := by decide +kernel
theorem dX10_lowest_7 : decode cX10_lowest 7 = .ok (.goto 12, 3) := by decide +kernel
theorem dX10_lowest_10 : decode cX10_lowest 10 = .ok (.lload_n 0, 1) := by decide +kernel
theorem dX10_lowest_11 : decode cX10_lowest 11 = .ok (.lload_n 0, 1) := by decide +kernel
theorem dX10_lowest_12 : decode cX10_lowest 12 = .ok (.lneg, 1) := by decide +kernel
theorem dX10_lowest_13 : decode cX10_lowest 13 = .ok (.land, 1) := by decide +kernel
theorem dX10_lowest_14 : decode cX10_lowest 14 = .ok (.lconst 1, 1) := by decide +kernel
theorem dX10_lowest_15 : decode cX10_lowest 15 = .ok (.lsub, 1) := by decide +kernel
theorem dX10_lowest_16 : decode cX10_lowest 16 = .ok (.invokestatic 165, 3) := by decide +kernel
theorem dX10_lowest_19 : decode cX10_lowest 19 = .ok (.ireturn, 1) := by decide +kernel
theorem dX10_inked_0 : decode cX10_inked 0 = .ok (.aload_n 0, 1) := by decide +kernel
theorem dX10_inked_1 : decode cX10_inked 1 = .ok (.getfield 26, 3) := by decide +kernel
theorem dX10_inked_4 : decode cX10_inked 4 = .ok (.getfield 414, 3) := by decide +kernel
theorem dX10_inked_7 : decode cX10_inked 7 = .ok (.aload_n 1, 1) := by decide +kernel
theorem dX10_inked_8 : decode cX10_inked 8 = .ok (.getfield 191, 3) := by decide +kernel
theorem dX10_inked_11 : decode cX10_inked 11 = .ok (.ldc2_w 417, 3) := by decide +kernel
theorem dX10_inked_14 : decode cX10_inked 14 = .ok (.lxor, 1) := by decide +kernel
theorem dX10_inked_15 : decode cX10_inked 15 = .ok (.land, 1) := by decide +kernel
theorem dX10_inked_16 : decode cX10_inked 16 = .ok (.invokestatic 165, 3) := by decide +kernel
theorem dX10_inked_19 : decode cX10_inked 19 = .ok (.ireturn, 1) := by decide +kernel
theorem dX10_here_0 : decode cX10_here 0 = .ok (.aload_n 0, 1) := by decide +kernel
theorem dX10_here_1 : decode cX10_here 1 = .ok (.getfield 86, 3) := by decide +kernel
theorem dX10_here_4 : decode cX10_here 4 = .ok (.aload_n 0, 1) := by decide +kernel
theorem dX10_here_5 : decode cX10_here 5 = .ok (.getfield 26, 3) := by decide +kernel
theorem dX10_here_8 : decode cX10_here 8 = .ok (.aload_n 0, 1) := by decide +kernel
theorem dX10_here_9 : decode cX10_here 9 = .ok (.getfield 45, 3) := by decide +kernel
theorem dX10_here_12 : decode cX10_here 12 = .ok (.invokevirtual 419, 3) := by decide +kernel
theorem dX10_here_15 : decode cX10_here 15 = .ok (.aload_n 0, 1) := by decide +kernel
theorem dX10_here_16 : decode cX10_here 16 = .ok (.getfield 86, 3) := by decide +kernel
theorem dX10_here_19 : decode cX10_here 19 = .ok (.areturn, 1) := by decide +kernel
theorem dX10_runAhead_0 : decode cX10_runAhead 0 = .ok (.aload_n 0, 1) := by decide +kernel
theorem dX10_runAhead_1 : decode cX10_runAhead 1 = .ok (.getfield 79, 3) := by decide +kernel
theorem dX10_runAhead_4 : decode cX10_runAhead 4 = .ok (.aload_n 0, 1) := by decide +kernel
theorem dX10_runAhead_5 : decode cX10_runAhead 5 = .ok (.getfield 26, 3) := by decide +kernel
theorem dX10_runAhead_8 : decode cX10_runAhead 8 = .ok (.aload_n 0, 1) := by decide +kernel
theorem dX10_runAhead_9 : decode cX10_runAhead 9 = .ok (.getfield 45, 3) := by decide +kernel
theorem dX10_runAhead_12 : decode cX10_runAhead 12 = .ok (.invokevirtual 264, 3) := by decide +kernel
theorem dX10_runAhead_15 : decode cX10_runAhead 15 = .ok (.iconst 0, 1) := by decide +kernel
theorem dX10_runAhead_16 : decode cX10_runAhead 16 = .ok (.istore_n 2, 1) := by decide +kernel
theorem dX10_runAhead_17 : decode cX10_runAhead 17 = .ok (.iload_n 2, 1) := by decide +kernel
theorem dX10_runAhead_18 : decode cX10_runAhead 18 = .ok (.iload_n 1, 1) := by decide +kernel
theorem dX10_runAhead_19 : decode cX10_runAhead 19 = .ok (.if_icmp .ge 17, 3) := by decide +kernel
theorem dX10_runAhead_22 : decode cX10_runAhead 22 = .ok (.aload_n 0, 1) := by decide +kernel
theorem dX10_runAhead_23 : decode cX10_runAhead 23 = .ok (.getfield 79, 3) := by decide +kernel
theorem dX10_runAhead_26 : decode cX10_runAhead 26 = .ok (.iconst 1, 1) := by decide +kernel
theorem dX10_runAhead_27 : decode cX10_runAhead 27 = .ok (.invokevirtual 268, 3) := by decide +kernel
theorem dX10_runAhead_30 : decode cX10_runAhead 30 = .ok (.iinc 2 1, 3) := by decide +kernel
theorem dX10_runAhead_33 : decode cX10_runAhead 33 = .ok (.goto (-16), 3) := by decide +kernel
theorem dX10_runAhead_36 : decode cX10_runAhead 36 = .ok (.return_, 1) := by decide +kernel
theorem dX11_init_0 : decode cX11_init 0 = .ok (.aload_n 0, 1) := by decide +kernel
theorem dX11_init_1 : decode cX11_init 1 = .ok (.invokespecial 1, 3) := by decide +kernel
theorem dX11_init_4 : decode cX11_init 4 = .ok (.aload_n 0, 1) := by decide +kernel
theorem dX11_init_5 : decode cX11_init 5 = .ok (.iconst (-1), 1) := by decide +kernel
theorem dX11_init_6 : decode cX11_init 6 = .ok (.putfield 9, 3) := by decide +kernel
theorem dX11_init_9 : decode cX11_init 9 = .ok (.aload_n 0, 1) := by decide +kernel
theorem dX11_init_10 : decode cX11_init 10 = .ok (.iconst (-1), 1) := by decide +kernel
theorem dX11_init_11 : decode cX11_init 11 = .ok (.putfield 13, 3) := by decide +kernel
theorem dX11_init_14 : decode cX11_init 14 = .ok (.aload_n 0, 1) := by decide +kernel
theorem dX11_init_15 : decode cX11_init 15 = .ok (.bipush 6, 2) := by decide +kernel
theorem dX11_init_17 : decode cX11_init 17 = .ok (.newarray .int, 2) := by decide +kernel
theorem dX11_init_19 : decode cX11_init 19 = .ok (.putfield 16, 3) := by decide +kernel
theorem dX11_init_22 : decode cX11_init 22 = .ok (.aload_n 0, 1) := by decide +kernel
theorem dX11_init_23 : decode cX11_init 23 = .ok (.sipush 1400, 3) := by decide +kernel
theorem dX11_init_26 : decode cX11_init 26 = .ok (.newarray .int, 2) := by decide +kernel
theorem dX11_init_28 : decode cX11_init 28 = .ok (.putfield 20, 3) := by decide +kernel
theorem dX11_init_31 : decode cX11_init 31 = .ok (.aload_n 0, 1) := by decide +kernel
theorem dX11_init_32 : decode cX11_init 32 = .ok (.sipush 700, 3) := by decide +kernel
theorem dX11_init_35 : decode cX11_init 35 = .ok (.newarray .int, 2) := by decide +kernel
theorem dX11_init_37 : decode cX11_init 37 = .ok (.putfield 23, 3) := by decide +kernel
theorem dX11_init_40 : decode cX11_init 40 = .ok (.aload_n 0, 1) := by decide +kernel
theorem dX11_init_41 : decode cX11_init 41 = .ok (.iconst (-1), 1) := by decide +kernel
theorem dX11_init_42 : decode cX11_init 42 = .ok (.putfield 26, 3) := by decide +kernel
theorem dX11_init_45 : decode cX11_init 45 = .ok (.aload_n 0, 1) := by decide +kernel
theorem dX11_init_46 : decode cX11_init 46 = .ok (.iconst 3, 1) := by decide +kernel
theorem dX11_init_47 : decode cX11_init 47 = .ok (.newarray .int, 2) := by decide +kernel
theorem dX11_init_49 : decode cX11_init 49 = .ok (.putfield 29, 3) := by decide +kernel
theorem dX11_init_52 : decode cX11_init 52 = .ok (.aload_n 0, 1) := by decide +kernel
theorem dX11_init_53 : decode cX11_init 53 = .ok (.bipush 6, 2) := by decide +kernel
theorem dX11_init_55 : decode cX11_init 55 = .ok (.newarray .int, 2) := by decide +kernel
theorem dX11_init_57 : decode cX11_init 57 = .ok (.putfield 32, 3) := by decide +kernel
theorem dX11_init_60 : decode cX11_init 60 = .ok (.aload_n 0, 1) := by decide +kernel
theorem dX11_init_61 : decode cX11_init 61 = .ok (.bipush 79, 2) := by decide +kernel
theorem dX11_init_63 : decode cX11_init 63 = .ok (.newarray .int, 2) := by decide +kernel
theorem dX11_init_65 : decode cX11_init 65 = .ok (.putfield 35, 3) := by decide +kernel
theorem dX11_init_68 : decode cX11_init 68 = .ok (.aload_n 0, 1) := by decide +kernel
theorem dX11_init_69 : decode cX11_init 69 = .ok (.sipush 1400, 3) := by decide +kernel
theorem dX11_init_72 : decode cX11_init 72 = .ok (.newarray .int, 2) := by decide +kernel
theorem dX11_init_74 : decode cX11_init 74 = .ok (.putfield 38, 3) := by decide +kernel
theorem dX11_init_77 : decode cX11_init 77 = .ok (.aload_n 0, 1) := by decide +kernel
theorem dX11_init_78 : decode cX11_init 78 = .ok (.sipush 950, 3) := by decide +kernel
theorem dX11_init_81 : decode cX11_init 81 = .ok (.newarray .int, 2) := by decide +kernel
theorem dX11_init_83 : decode cX11_init 83 = .ok (.putfield 41, 3) := by decide +kernel
theorem dX11_init_86 : decode cX11_init 86 = .ok (.aload_n 0, 1) := by decide +kernel
theorem dX11_init_87 : decode cX11_init 87 = .ok (.bipush 9, 2) := by decide +kernel
theorem dX11_init_89 : decode cX11_init 89 = .ok (.newarray .boolean, 2) := by decide +kernel
theorem dX11_init_91 : decode cX11_init 91 = .ok (.putfield 44, 3) := by decide +kernel
theorem dX11_init_94 : decode cX11_init 94 = .ok (.aload_n 0, 1) := by decide +kernel
theorem dX11_init_95 : decode cX11_init 95 = .ok (.sipush 158, 3) := by decide +kernel
theorem dX11_init_98 : decode cX11_init 98 = .ok (.newarray .int, 2) := by decide +kernel
theorem dX11_init_100 : decode cX11_init 100 = .ok (.putfield 48, 3) := by decide +kernel
theorem dX11_init_103 : decode cX11_init 103 = .ok (.aload_n 0, 1) := by decide +kernel
theorem dX11_init_104 : decode cX11_init 104 = .ok (.sipush 3160, 3) := by decide +kernel
theorem dX11_init_107 : decode cX11_init 107 = .ok (.newarray .int, 2) := by decide +kernel
theorem dX11_init_109 : decode cX11_init 109 = .ok (.putfield 51, 3) := by decide +kernel
theorem dX11_init_112 : decode cX11_init 112 = .ok (.aload_n 0, 1) := by decide +kernel
theorem dX11_init_113 : decode cX11_init 113 = .ok (.bipush 9, 2) := by decide +kernel
theorem dX11_init_115 : decode cX11_init 115 = .ok (.newarray .int, 2) := by decide +kernel
theorem dX11_init_117 : decode cX11_init 117 = .ok (.putfield 54, 3) := by decide +kernel
theorem dX11_init_120 : decode cX11_init 120 = .ok (.aload_n 0, 1) := by decide +kernel
theorem dX11_init_121 : decode cX11_init 121 = .ok (.sipush 950, 3) := by decide +kernel
theorem dX11_init_124 : decode cX11_init 124 = .ok (.newarray .int, 2) := by decide +kernel
theorem dX11_init_126 : decode cX11_init 126 = .ok (.putfield 57, 3) := by decide +kernel
theorem dX11_init_129 : decode cX11_init 129 = .ok (.aload_n 0, 1) := by decide +kernel
theorem dX11_init_130 : decode cX11_init 130 = .ok (.bipush 48, 2) := by decide +kernel
theorem dX11_init_132 : decode cX11_init 132 = .ok (.newarray .int, 2) := by decide +kernel
theorem dX11_init_134 : decode cX11_init 134 = .ok (.putfield 60, 3) := by decide +kernel
theorem dX11_init_137 : decode cX11_init 137 = .ok (.aload_n 0, 1) := by decide +kernel
theorem dX11_init_138 : decode cX11_init 138 = .ok (.bipush 48, 2) := by decide +kernel
theorem dX11_init_140 : decode cX11_init 140 = .ok (.newarray .int, 2) := by decide +kernel
theorem dX11_init_142 : decode cX11_init 142 = .ok (.putfield 63, 3) := by decide +kernel
theorem dX11_init_145 : decode cX11_init 145 = .ok (.aload_n 0, 1) := by decide +kernel
theorem dX11_init_146 : decode cX11_init 146 = .ok (.iconst (-1), 1) := by decide +kernel
theorem dX11_init_147 : decode cX11_init 147 = .ok (.putfield 66, 3) := by decide +kernel
theorem dX11_init_150 : decode cX11_init 150 = .ok (.aload_n 0, 1) := by decide +kernel
theorem dX11_init_151 : decode cX11_init 151 = .ok (.bipush 6, 2) := by decide +kernel
theorem dX11_init_153 : decode cX11_init 153 = .ok (.newarray .int, 2) := by decide +kernel
theorem dX11_init_155 : decode cX11_init 155 = .ok (.putfield 69, 3) := by decide +kernel
theorem dX11_init_158 : decode cX11_init 158 = .ok (.aload_n 0, 1) := by decide +kernel
theorem dX11_init_159 : decode cX11_init 159 = .ok (.bipush 48, 2) := by decide +kernel
theorem dX11_init_161 : decode cX11_init 161 = .ok (.newarray .int, 2) := by decide +kernel
theorem dX11_init_163 : decode cX11_init 163 = .ok (.putfield 72, 3) := by decide +kernel
theorem dX11_init_166 : decode cX11_init 166 = .ok (.aload_n 0, 1) := by decide +kernel
theorem dX11_init_167 : decode cX11_init 167 = .ok (.bipush 36, 2) := by decide +kernel
theorem dX11_init_169 : decode cX11_init 169 = .ok (.newarray .int, 2) := by decide +kernel
theorem dX11_init_171 : decode cX11_init 171 = .ok (.putfield 75, 3) := by decide +kernel
theorem dX11_init_174 : decode cX11_init 174 = .ok (.aload_n 0, 1) := by decide +kernel
theorem dX11_init_175 : decode cX11_init 175 = .ok (.sipush 448, 3) := by decide +kernel
theorem dX11_init_178 : decode cX11_init 178 = .ok (.newarray .int, 2) := by decide +kernel
theorem dX11_init_180 : decode cX11_init 180 = .ok (.putfield 78, 3) := by decide +kernel
theorem dX11_init_183 : decode cX11_init 183 = .ok (.aload_n 0, 1) := by decide +kernel
theorem dX11_init_184 : decode cX11_init 184 = .ok (.bipush 24, 2) := by decide +kernel
theorem dX11_init_186 : decode cX11_init 186 = .ok (.newarray .int, 2) := by decide +kernel
theorem dX11_init_188 : decode cX11_init 188 = .ok (.putfield 81, 3) := by decide +kernel
theorem dX11_init_191 : decode cX11_init 191 = .ok (.aload_n 0, 1) := by decide +kernel
theorem dX11_init_192 : decode cX11_init 192 = .ok (.bipush 6, 2) := by decide +kernel
theorem dX11_init_194 : decode cX11_init 194 = .ok (.newarray .int, 2) := by decide +kernel
theorem dX11_init_196 : decode cX11_init 196 = .ok (.putfield 84, 3) := by decide +kernel
theorem dX11_init_199 : decode cX11_init 199 = .ok (.aload_n 0, 1) := by decide +kernel
theorem dX11_init_200 : decode cX11_init 200 = .ok (.sipush 360, 3) := by decide +kernel
theorem dX11_init_203 : decode cX11_init 203 = .ok (.newarray .int, 2) := by decide +kernel
theorem dX11_init_205 : decode cX11_init 205 = .ok (.putfield 87, 3) := by decide +kernel
theorem dX11_init_208 : decode cX11_init 208 = .ok (.aload_n 0, 1) := by decide +kernel
theorem dX11_init_209 : decode cX11_init 209 = .ok (.bipush 79, 2) := by decide +kernel
theorem dX11_init_211 : decode cX11_init 211 = .ok (.newarray .int, 2) := by decide +kernel
theorem dX11_init_213 : decode cX11_init 213 = .ok (.putfield 90, 3) := by decide +kernel
theorem dX11_init_216 : decode cX11_init 216 = .ok (.aload_n 0, 1) := by decide +kernel
theorem dX11_init_217 : decode cX11_init 217 = .ok (.sipush 3160, 3) := by decide +kernel
theorem dX11_init_220 : decode cX11_init 220 = .ok (.newarray .int, 2) := by decide +kernel
theorem dX11_init_222 : decode cX11_init 222 = .ok (.putfield 93, 3) := by decide +kernel
theorem dX11_init_225 : decode cX11_init 225 = .ok (.aload_n 0, 1) := by decide +kernel
theorem dX11_init_226 : decode cX11_init 226 = .ok (.bipush 24, 2) := by decide +kernel
theorem dX11_init_228 : decode cX11_init 228 = .ok (.newarray .int, 2) := by decide +kernel
theorem dX11_init_230 : decode cX11_init 230 = .ok (.putfield 96, 3) := by decide +kernel
theorem dX11_init_233 : decode cX11_init 233 = .ok (.return_, 1) := by decide +kernel
theorem dX11_thrown_0 : decode cX11_thrown 0 = .ok (.aload_n 0, 1) := by decide +kernel
theorem dX11_thrown_1 : decode cX11_thrown 1 = .ok (.getfield 99, 3) := by decide +kernel
theorem dX11_thrown_4 : decode cX11_thrown 4 = .ok (.ireturn, 1) := by decide +kernel
theorem dX11_right_0 : decode cX11_right 0 = .ok (.aload_n 0, 1) := by decide +kernel
theorem dX11_right_1 : decode cX11_right 1 = .ok (.getfield 99, 3) := by decide +kernel
theorem dX11_right_4 : decode cX11_right 4 = .ok (.ifCond .ne 12, 3) := by decide +kernel
theorem dX11_right_7 : decode cX11_right 7 = .ok (.iload_n 1, 1) := by decide +kernel
theorem dX11_right_8 : decode cX11_right 8 = .ok (.ifCond .ne 8, 3) := by decide +kernel
theorem dX11_right_11 : decode cX11_right 11 = .ok (.aload_n 0, 1) := by decide +kernel
theorem dX11_right_12 : decode cX11_right 12 = .ok (.iload_n 2, 1) := by decide +kernel
theorem dX11_right_13 : decode cX11_right 13 = .ok (.putfield 99, 3) := by decide +kernel
theorem dX11_right_16 : decode cX11_right 16 = .ok (.aload_n 0, 1) := by decide +kernel
theorem dX11_right_17 : decode cX11_right 17 = .ok (.getfield 99, 3) := by decide +kernel
theorem dX11_right_20 : decode cX11_right 20 = .ok (.ifCond .ne 7, 3) := by decide +kernel
theorem dX11_right_23 : decode cX11_right 23 = .ok (.iconst 1, 1) := by decide +kernel
theorem dX11_right_24 : decode cX11_right 24 = .ok (.goto 4, 3) := by decide +kernel
theorem dX11_right_27 : decode cX11_right 27 = .ok (.iconst 0, 1) := by decide +kernel
theorem dX11_right_28 : decode cX11_right 28 = .ok (.ireturn, 1) := by decide +kernel
theorem dX11_within_0 : decode cX11_within 0 = .ok (.iload_n 0, 1) := by decide +kernel
theorem dX11_within_1 : decode cX11_within 1 = .ok (.iload_n 1, 1) := by decide +kernel
theorem dX11_within_2 : decode cX11_within 2 = .ok (.if_icmp .lt 12, 3) := by decide +kernel
theorem dX11_within_5 : decode cX11_within 5 = .ok (.iload_n 0, 1) := by decide +kernel
theorem dX11_within_6 : decode cX11_within 6 = .ok (.iload_n 2, 1) := by decide +kernel
theorem dX11_within_7 : decode cX11_within 7 = .ok (.if_icmp .gt 7, 3) := by decide +kernel
theorem dX11_within_10 : decode cX11_within 10 = .ok (.iconst 1, 1) := by decide +kernel
theorem dX11_within_11 : decode cX11_within 11 = .ok (.goto 4, 3) := by decide +kernel
theorem dX11_within_14 : decode cX11_within 14 = .ok (.iconst 0, 1) := by decide +kernel
theorem dX11_within_15 : decode cX11_within 15 = .ok (.ireturn, 1) := by decide +kernel
theorem dX11_bounded_0 : decode cX11_bounded 0 = .ok (.iload_n 0, 1) := by decide +kernel
theorem dX11_bounded_1 : decode cX11_bounded 1 = .ok (.iload_n 1, 1) := by decide +kernel
theorem dX11_bounded_2 : decode cX11_bounded 2 = .ok (.if_icmp .ge 7, 3) := by decide +kernel
theorem dX11_bounded_5 : decode cX11_bounded 5 = .ok (.iload_n 1, 1) := by decide +kernel
theorem dX11_bounded_6 : decode cX11_bounded 6 = .ok (.goto 13, 3) := by decide +kernel
theorem dX11_bounded_9 : decode cX11_bounded 9 = .ok (.iload_n 0, 1) := by decide +kernel
theorem dX11_bounded_10 : decode cX11_bounded 10 = .ok (.iload_n 2, 1) := by decide +kernel
theorem dX11_bounded_11 : decode cX11_bounded 11 = .ok (.if_icmp .le 7, 3) := by decide +kernel
theorem dX11_bounded_14 : decode cX11_bounded 14 = .ok (.iload_n 2, 1) := by decide +kernel
theorem dX11_bounded_15 : decode cX11_bounded 15 = .ok (.goto 4, 3) := by decide +kernel
theorem dX11_bounded_18 : decode cX11_bounded 18 = .ok (.iload_n 0, 1) := by decide +kernel
theorem dX11_bounded_19 : decode cX11_bounded 19 = .ok (.ireturn, 1) := by decide +kernel
theorem dX11_lesser_0 : decode cX11_lesser 0 = .ok (.iload_n 0, 1) := by decide +kernel
theorem dX11_lesser_1 : decode cX11_lesser 1 = .ok (.iload_n 1, 1) := by decide +kernel
theorem dX11_lesser_2 : decode cX11_lesser 2 = .ok (.if_icmp .ge 7, 3) := by decide +kernel
theorem dX11_lesser_5 : decode cX11_lesser 5 = .ok (.iload_n 0, 1) := by decide +kernel
theorem dX11_lesser_6 : decode cX11_lesser 6 = .ok (.goto 4, 3) := by decide +kernel
theorem dX11_lesser_9 : decode cX11_lesser 9 = .ok (.iload_n 1, 1) := by decide +kernel
theorem dX11_lesser_10 : decode cX11_lesser 10 = .ok (.ireturn, 1) := by decide +kernel
theorem dX11_copies_0 : decode cX11_copies 0 = .ok (.iconst 0, 1) := by decide +kernel
theorem dX11_copies_1 : decode cX11_copies 1 = .ok (.istore_n 3, 1) := by decide +kernel
theorem dX11_copies_2 : decode cX11_copies 2 = .ok (.iload_n 3, 1) := by decide +kernel
theorem dX11_copies_3 : decode cX11_copies 3 = .ok (.aload_n 1, 1) := by decide +kernel
theorem dX11_copies_4 : decode cX11_copies 4 = .ok (.arraylength, 1) := by decide +kernel
theorem dX11_copies_5 : decode cX11_copies 5 = .ok (.if_icmp .ge 15, 3) := by decide +kernel
theorem dX11_copies_8 : decode cX11_copies 8 = .ok (.aload_n 2, 1) := by decide +kernel
theorem dX11_copies_9 : decode cX11_copies 9 = .ok (.iload_n 3, 1) := by decide +kernel
theorem dX11_copies_10 : decode cX11_copies 10 = .ok (.aload_n 1, 1) := by decide +kernel
theorem dX11_copies_11 : decode cX11_copies 11 = .ok (.iload_n 3, 1) := by decide +kernel
theorem dX11_copies_12 : decode cX11_copies 12 = .ok (.iaload, 1) := by decide +kernel
theorem dX11_copies_13 : decode cX11_copies 13 = .ok (.iastore, 1) := by decide +kernel
theorem dX11_copies_14 : decode cX11_copies 14 = .ok (.iinc 3 1, 3) := by decide +kernel
theorem dX11_copies_17 : decode cX11_copies 17 = .ok (.goto (-15), 3) := by decide +kernel
theorem dX11_copies_20 : decode cX11_copies 20 = .ok (.return_, 1) := by decide +kernel
theorem dX11_feed_0 : decode cX11_feed 0 = .ok (.aload_n 0, 1) := by decide +kernel
theorem dX11_feed_1 : decode cX11_feed 1 = .ok (.iconst 0, 1) := by decide +kernel
theorem dX11_feed_2 : decode cX11_feed 2 = .ok (.putfield 99, 3) := by decide +kernel
theorem dX11_feed_5 : decode cX11_feed 5 = .ok (.aload_n 0, 1) := by decide +kernel
theorem dX11_feed_6 : decode cX11_feed 6 = .ok (.getfield 102, 3) := by decide +kernel
theorem dX11_feed_9 : decode cX11_feed 9 = .ok (.bipush 20, 2) := by decide +kernel
theorem dX11_feed_11 : decode cX11_feed 11 = .ok (.iadd, 1) := by decide +kernel
theorem dX11_feed_12 : decode cX11_feed 12 = .ok (.sipush 700, 3) := by decide +kernel
theorem dX11_feed_15 : decode cX11_feed 15 = .ok (.if_icmp .le 5, 3) := by decide +kernel
theorem dX11_feed_18 : decode cX11_feed 18 = .ok (.iconst (-1), 1) := by decide +kernel
theorem dX11_feed_19 : decode cX11_feed 19 = .ok (.ireturn, 1) := by decide +kernel
theorem dX11_feed_20 : decode cX11_feed 20 = .ok (.aload_n 0, 1) := by decide +kernel
theorem dX11_feed_21 : decode cX11_feed 21 = .ok (.iload_n 1, 1) := by decide +kernel
theorem dX11_feed_22 : decode cX11_feed 22 = .ok (.invokevirtual 105, 3) := by decide +kernel
theorem dX11_feed_25 : decode cX11_feed 25 = .ok (.aload_n 0, 1) := by decide +kernel
theorem dX11_feed_26 : decode cX11_feed 26 = .ok (.iload_n 2, 1) := by decide +kernel
theorem dX11_feed_27 : decode cX11_feed 27 = .ok (.invokevirtual 105, 3) := by decide +kernel
theorem dX11_feed_30 : decode cX11_feed 30 = .ok (.aload_n 0, 1) := by decide +kernel
theorem dX11_feed_31 : decode cX11_feed 31 = .ok (.iload_n 3, 1) := by decide +kernel
theorem dX11_feed_32 : decode cX11_feed 32 = .ok (.invokevirtual 105, 3) := by decide +kernel
theorem dX11_feed_35 : decode cX11_feed 35 = .ok (.aload_n 0, 1) := by decide +kernel
theorem dX11_feed_36 : decode cX11_feed 36 = .ok (.iload 4, 2) := by decide +kernel
theorem dX11_feed_38 : decode cX11_feed 38 = .ok (.invokevirtual 105, 3) := by decide +kernel
theorem dX11_feed_41 : decode cX11_feed 41 = .ok (.aload_n 0, 1) := by decide +kernel
theorem dX11_feed_42 : decode cX11_feed 42 = .ok (.iload 5, 2) := by decide +kernel
theorem dX11_feed_44 : decode cX11_feed 44 = .ok (.invokevirtual 105, 3) := by decide +kernel
theorem dX11_feed_47 : decode cX11_feed 47 = .ok (.aload_n 0, 1) := by decide +kernel
theorem dX11_feed_48 : decode cX11_feed 48 = .ok (.getfield 102, 3) := by decide +kernel
theorem dX11_feed_51 : decode cX11_feed 51 = .ok (.ireturn, 1) := by decide +kernel
theorem dX11_lays_0 : decode cX11_lays 0 = .ok (.bipush 24, 2) := by decide +kernel
theorem dX11_lays_2 : decode cX11_lays 2 = .ok (.istore_n 2, 1) := by decide +kernel
theorem dX11_lays_3 : decode cX11_lays 3 = .ok (.iload_n 2, 1) := by decide +kernel
theorem dX11_lays_4 : decode cX11_lays 4 = .ok (.ifCond .lt 35, 3) := by decide +kernel
theorem dX11_lays_7 : decode cX11_lays 7 = .ok (.aload_n 0, 1) := by decide +kernel
theorem dX11_lays_8 : decode cX11_lays 8 = .ok (.getfield 23, 3) := by decide +kernel
theorem dX11_lays_11 : decode cX11_lays 11 = .ok (.aload_n 0, 1) := by decide +kernel
theorem dX11_lays_12 : decode cX11_lays 12 = .ok (.getfield 102, 3) := by decide +kernel
theorem dX11_lays_15 : decode cX11_lays 15 = .ok (.iload_n 1, 1) := by decide +kernel
theorem dX11_lays_16 : decode cX11_lays 16 = .ok (.iload_n 2, 1) := by decide +kernel
theorem dX11_lays_17 : decode cX11_lays 17 = .ok (.ishr, 1) := by decide +kernel
theorem dX11_lays_18 : decode cX11_lays 18 = .ok (.sipush 255, 3) := by decide +kernel
theorem dX11_lays_21 : decode cX11_lays 21 = .ok (.iand, 1) := by decide +kernel
theorem dX11_lays_22 : decode cX11_lays 22 = .ok (.iastore, 1) := by decide +kernel
theorem dX11_lays_23 : decode cX11_lays 23 = .ok (.aload_n 0, 1) := by decide +kernel
theorem dX11_lays_24 : decode cX11_lays 24 = .ok (.dup, 1) := by decide +kernel
theorem dX11_lays_25 : decode cX11_lays 25 = .ok (.getfield 102, 3) := by decide +kernel
theorem dX11_lays_28 : decode cX11_lays 28 = .ok (.iconst 1, 1) := by decide +kernel
theorem dX11_lays_29 : decode cX11_lays 29 = .ok (.iadd, 1) := by decide +kernel
theorem dX11_lays_30 : decode cX11_lays 30 = .ok (.putfield 102, 3) := by decide +kernel
theorem dX11_lays_33 : decode cX11_lays 33 = .ok (.iinc 2 (-8), 3) := by decide +kernel
theorem dX11_lays_36 : decode cX11_lays 36 = .ok (.goto (-33), 3) := by decide +kernel
theorem dX11_lays_39 : decode cX11_lays 39 = .ok (.return_, 1) := by decide +kernel
theorem dX11_byteAt_0 : decode cX11_byteAt 0 = .ok (.iload_n 1, 1) := by decide +kernel
theorem dX11_byteAt_1 : decode cX11_byteAt 1 = .ok (.aload_n 0, 1) := by decide +kernel
theorem dX11_byteAt_2 : decode cX11_byteAt 2 = .ok (.getfield 109, 3) := by decide +kernel
theorem dX11_byteAt_5 : decode cX11_byteAt 5 = .ok (.if_icmp .ge 12, 3) := by decide +kernel
theorem dX11_byteAt_8 : decode cX11_byteAt 8 = .ok (.aload_n 0, 1) := by decide +kernel
theorem dX11_byteAt_9 : decode cX11_byteAt 9 = .ok (.getfield 23, 3) := by decide +kernel
theorem dX11_byteAt_12 : decode cX11_byteAt 12 = .ok (.iload_n 1, 1) := by decide +kernel
theorem dX11_byteAt_13 : decode cX11_byteAt 13 = .ok (.iaload, 1) := by decide +kernel
theorem dX11_byteAt_14 : decode cX11_byteAt 14 = .ok (.goto 4, 3) := by decide +kernel
theorem dX11_byteAt_17 : decode cX11_byteAt 17 = .ok (.iconst 0, 1) := by decide +kernel
theorem dX11_byteAt_18 : decode cX11_byteAt 18 = .ok (.ireturn, 1) := by decide +kernel
theorem dX11_isLetter_0 : decode cX11_isLetter 0 = .ok (.iload_n 0, 1) := by decide +kernel
theorem dX11_isLetter_1 : decode cX11_isLetter 1 = .ok (.bipush 97, 2) := by decide +kernel
theorem dX11_isLetter_3 : decode cX11_isLetter 3 = .ok (.if_icmp .lt 13, 3) := by decide +kernel
theorem dX11_isLetter_6 : decode cX11_isLetter 6 = .ok (.iload_n 0, 1) := by decide +kernel
theorem dX11_isLetter_7 : decode cX11_isLetter 7 = .ok (.bipush 122, 2) := by decide +kernel
theorem dX11_isLetter_9 : decode cX11_isLetter 9 = .ok (.if_icmp .gt 7, 3) := by decide +kernel
theorem dX11_isLetter_12 : decode cX11_isLetter 12 = .ok (.iconst 1, 1) := by decide +kernel
theorem dX11_isLetter_13 : decode cX11_isLetter 13 = .ok (.goto 4, 3) := by decide +kernel
theorem dX11_isLetter_16 : decode cX11_isLetter 16 = .ok (.iconst 0, 1) := by decide +kernel
theorem dX11_isLetter_17 : decode cX11_isLetter 17 = .ok (.ireturn, 1) := by decide +kernel
theorem dX11_isDigit_0 : decode cX11_isDigit 0 = .ok (.iload_n 0, 1) := by decide +kernel
theorem dX11_isDigit_1 : decode cX11_isDigit 1 = .ok (.bipush 48, 2) := by decide +kernel
theorem dX11_isDigit_3 : decode cX11_isDigit 3 = .ok (.if_icmp .lt 13, 3) := by decide +kernel
theorem dX11_isDigit_6 : decode cX11_isDigit 6 = .ok (.iload_n 0, 1) := by decide +kernel
theorem dX11_isDigit_7 : decode cX11_isDigit 7 = .ok (.bipush 57, 2) := by decide +kernel
theorem dX11_isDigit_9 : decode cX11_isDigit 9 = .ok (.if_icmp .gt 7, 3) := by decide +kernel
theorem dX11_isDigit_12 : decode cX11_isDigit 12 = .ok (.iconst 1, 1) := by decide +kernel
theorem dX11_isDigit_13 : decode cX11_isDigit 13 = .ok (.goto 4, 3) := by decide +kernel
theorem dX11_isDigit_16 : decode cX11_isDigit 16 = .ok (.iconst 0, 1) := by decide +kernel
theorem dX11_isDigit_17 : decode cX11_isDigit 17 = .ok (.ireturn, 1) := by decide +kernel
theorem dX11_goes_0 : decode cX11_goes 0 = .ok (.aload_n 0, 1) := by decide +kernel
theorem dX11_goes_1 : decode cX11_goes 1 = .ok (.getfield 112, 3) := by decide +kernel
theorem dX11_goes_4 : decode cX11_goes 4 = .ok (.aload_n 0, 1) := by decide +kernel
theorem dX11_goes_5 : decode cX11_goes 5 = .ok (.getfield 109, 3) := by decide +kernel
theorem dX11_goes_8 : decode cX11_goes 8 = .ok (.if_icmp .ge 42, 3) := by decide +kernel
theorem dX11_goes_11 : decode cX11_goes 11 = .ok (.aload_n 0, 1) := by decide +kernel
theorem dX11_goes_12 : decode cX11_goes 12 = .ok (.aload_n 0, 1) := by decide +kernel
theorem dX11_goes_13 : decode cX11_goes 13 = .ok (.getfield 112, 3) := by decide +kernel
theorem dX11_goes_16 : decode cX11_goes 16 = .ok (.invokevirtual 115, 3) := by decide +kernel
theorem dX11_goes_19 : decode cX11_goes 19 = .ok (.bipush 32, 2) := by decide +kernel
theorem dX11_goes_21 : decode cX11_goes 21 = .ok (.if_icmp .eq 16, 3) := by decide +kernel
theorem dX11_goes_24 : decode cX11_goes 24 = .ok (.aload_n 0, 1) := by decide +kernel
theorem dX11_goes_25 : decode cX11_goes 25 = .ok (.aload_n 0, 1) := by decide +kernel
theorem dX11_goes_26 : decode cX11_goes 26 = .ok (.getfield 112, 3) := by decide +kernel
theorem dX11_goes_29 : decode cX11_goes 29 = .ok (.invokevirtual 115, 3) := by decide +kernel
theorem dX11_goes_32 : decode cX11_goes 32 = .ok (.bipush 10, 2) := by decide +kernel
theorem dX11_goes_34 : decode cX11_goes 34 = .ok (.if_icmp .ne 16, 3) := by decide +kernel
theorem dX11_goes_37 : decode cX11_goes 37 = .ok (.aload_n 0, 1) := by decide +kernel
theorem dX11_goes_38 : decode cX11_goes 38 = .ok (.dup, 1) := by decide +kernel
theorem dX11_goes_39 : decode cX11_goes 39 = .ok (.getfield 112, 3) := by decide +kernel
theorem dX11_goes_42 : decode cX11_goes 42 = .ok (.iconst 1, 1) := by decide +kernel
theorem dX11_goes_43 : decode cX11_goes 43 = .ok (.iadd, 1) := by decide +kernel
theorem dX11_goes_44 : decode cX11_goes 44 = .ok (.putfield 112, 3) := by decide +kernel
theorem dX11_goes_47 : decode cX11_goes 47 = .ok (.goto (-47), 3) := by decide +kernel
theorem dX11_goes_50 : decode cX11_goes 50 = .ok (.aload_n 0, 1) := by decide +kernel
theorem dX11_goes_51 : decode cX11_goes 51 = .ok (.aload_n 0, 1) := by decide +kernel
theorem dX11_goes_52 : decode cX11_goes 52 = .ok (.getfield 112, 3) := by decide +kernel
theorem dX11_goes_55 : decode cX11_goes 55 = .ok (.putfield 119, 3) := by decide +kernel
theorem dX11_goes_58 : decode cX11_goes 58 = .ok (.aload_n 0, 1) := by decide +kernel
theorem dX11_goes_59 : decode cX11_goes 59 = .ok (.lconst 0, 1) := by decide +kernel
theorem dX11_goes_60 : decode cX11_goes 60 = .ok (.putfield 122, 3) := by decide +kernel
theorem dX11_goes_63 : decode cX11_goes 63 = .ok (.aload_n 0, 1) := by decide +kernel
theorem dX11_goes_64 : decode cX11_goes 64 = .ok (.iconst 0, 1) := by decide +kernel
theorem dX11_goes_65 : decode cX11_goes 65 = .ok (.putfield 126, 3) := by decide +kernel
theorem dX11_goes_68 : decode cX11_goes 68 = .ok (.aload_n 0, 1) := by decide +kernel
theorem dX11_goes_69 : decode cX11_goes 69 = .ok (.aload_n 0, 1) := by decide +kernel
theorem dX11_goes_70 : decode cX11_goes 70 = .ok (.getfield 112, 3) := by decide +kernel
theorem dX11_goes_73 : decode cX11_goes 73 = .ok (.invokevirtual 115, 3) := by decide +kernel
theorem dX11_goes_76 : decode cX11_goes 76 = .ok (.istore_n 1, 1) := by decide +kernel
theorem dX11_goes_77 : decode cX11_goes 77 = .ok (.aload_n 0, 1) := by decide +kernel
theorem dX11_goes_78 : decode cX11_goes 78 = .ok (.iload_n 1, 1) := by decide +kernel
theorem dX11_goes_79 : decode cX11_goes 79 = .ok (.putfield 129, 3) := by decide +kernel
theorem dX11_goes_82 : decode cX11_goes 82 = .ok (.aload_n 0, 1) := by decide +kernel
theorem dX11_goes_83 : decode cX11_goes 83 = .ok (.getfield 112, 3) := by decide +kernel
theorem dX11_goes_86 : decode cX11_goes 86 = .ok (.aload_n 0, 1) := by decide +kernel
theorem dX11_goes_87 : decode cX11_goes 87 = .ok (.getfield 109, 3) := by decide +kernel
theorem dX11_goes_90 : decode cX11_goes 90 = .ok (.if_icmp .lt 11, 3) := by decide +kernel
theorem dX11_goes_93 : decode cX11_goes 93 = .ok (.aload_n 0, 1) := by decide +kernel
theorem dX11_goes_94 : decode cX11_goes 94 = .ok (.iconst 0, 1) := by decide +kernel
theorem dX11_goes_95 : decode cX11_goes 95 = .ok (.putfield 132, 3) := by decide +kernel
theorem dX11_goes_98 : decode cX11_goes 98 = .ok (.goto 233, 3) := by decide +kernel
theorem dX11_goes_101 : decode cX11_goes 101 = .ok (.iload_n 1, 1) := by decide +kernel
theorem dX11_goes_102 : decode cX11_goes 102 = .ok (.invokestatic 135, 3) := by decide +kernel
theorem dX11_goes_105 : decode cX11_goes 105 = .ok (.ifCond .eq 75, 3) := by decide +kernel
theorem dX11_goes_108 : decode cX11_goes 108 = .ok (.aload_n 0, 1) := by decide +kernel
theorem dX11_goes_109 : decode cX11_goes 109 = .ok (.aload_n 0, 1) := by decide +kernel
theorem dX11_goes_110 : decode cX11_goes 110 = .ok (.getfield 112, 3) := by decide +kernel
theorem dX11_goes_113 : decode cX11_goes 113 = .ok (.invokevirtual 115, 3) := by decide +kernel
theorem dX11_goes_116 : decode cX11_goes 116 = .ok (.invokestatic 135, 3) := by decide +kernel
theorem dX11_goes_119 : decode cX11_goes 119 = .ok (.ifCond .eq 53, 3) := by decide +kernel
theorem dX11_goes_122 : decode cX11_goes 122 = .ok (.aload_n 0, 1) := by decide +kernel
theorem dX11_goes_123 : decode cX11_goes 123 = .ok (.getfield 112, 3) := by decide +kernel
theorem dX11_goes_126 : decode cX11_goes 126 = .ok (.aload_n 0, 1) := by decide +kernel
theorem dX11_goes_127 : decode cX11_goes 127 = .ok (.getfield 119, 3) := by decide +kernel
theorem dX11_goes_130 : decode cX11_goes 130 = .ok (.isub, 1) := by decide +kernel
theorem dX11_goes_131 : decode cX11_goes 131 = .ok (.bipush 6, 2) := by decide +kernel
theorem dX11_goes_133 : decode cX11_goes 133 = .ok (.if_icmp .ge 26, 3) := by decide +kernel
theorem dX11_goes_136 : decode cX11_goes 136 = .ok (.aload_n 0, 1) := by decide +kernel
theorem dX11_goes_137 : decode cX11_goes 137 = .ok (.aload_n 0, 1) := by decide +kernel
theorem dX11_goes_138 : decode cX11_goes 138 = .ok (.getfield 122, 3) := by decide +kernel
theorem dX11_goes_141 : decode cX11_goes 141 = .ok (.iconst 5, 1) := by decide +kernel
theorem dX11_goes_142 : decode cX11_goes 142 = .ok (.lshl, 1) := by decide +kernel
theorem dX11_goes_143 : decode cX11_goes 143 = .ok (.aload_n 0, 1) := by decide +kernel
theorem dX11_goes_144 : decode cX11_goes 144 = .ok (.aload_n 0, 1) := by decide +kernel
theorem dX11_goes_145 : decode cX11_goes 145 = .ok (.getfield 112, 3) := by decide +kernel
theorem dX11_goes_148 : decode cX11_goes 148 = .ok (.invokevirtual 115, 3) := by decide +kernel
theorem dX11_goes_151 : decode cX11_goes 151 = .ok (.bipush 96, 2) := by decide +kernel
theorem dX11_goes_153 : decode cX11_goes 153 = .ok (.isub, 1) := by decide +kernel
theorem dX11_goes_154 : decode cX11_goes 154 = .ok (.i2l, 1) := by decide +kernel
theorem dX11_goes_155 : decode cX11_goes 155 = .ok (.lor, 1) := by decide +kernel
theorem dX11_goes_156 : decode cX11_goes 156 = .ok (.putfield 122, 3) := by decide +kernel
theorem dX11_goes_159 : decode cX11_goes 159 = .ok (.aload_n 0, 1) := by decide +kernel
theorem dX11_goes_160 : decode cX11_goes 160 = .ok (.dup, 1) := by decide +kernel
theorem dX11_goes_161 : decode cX11_goes 161 = .ok (.getfield 112, 3) := by decide +kernel
theorem dX11_goes_164 : decode cX11_goes 164 = .ok (.iconst 1, 1) := by decide +kernel
theorem dX11_goes_165 : decode cX11_goes 165 = .ok (.iadd, 1) := by decide +kernel
theorem dX11_goes_166 : decode cX11_goes 166 = .ok (.putfield 112, 3) := by decide +kernel
theorem dX11_goes_169 : decode cX11_goes 169 = .ok (.goto (-61), 3) := by decide +kernel
theorem dX11_goes_172 : decode cX11_goes 172 = .ok (.aload_n 0, 1) := by decide +kernel
theorem dX11_goes_173 : decode cX11_goes 173 = .ok (.iconst 1, 1) := by decide +kernel
theorem dX11_goes_174 : decode cX11_goes 174 = .ok (.putfield 132, 3) := by decide +kernel
theorem dX11_goes_177 : decode cX11_goes 177 = .ok (.goto 154, 3) := by decide +kernel
theorem dX11_goes_180 : decode cX11_goes 180 = .ok (.iload_n 1, 1) := by decide +kernel
theorem dX11_goes_181 : decode cX11_goes 181 = .ok (.invokestatic 139, 3) := by decide +kernel
theorem dX11_goes_184 : decode cX11_goes 184 = .ok (.ifCond .eq 74, 3) := by decide +kernel
theorem dX11_goes_187 : decode cX11_goes 187 = .ok (.aload_n 0, 1) := by decide +kernel
theorem dX11_goes_188 : decode cX11_goes 188 = .ok (.aload_n 0, 1) := by decide +kernel
theorem dX11_goes_189 : decode cX11_goes 189 = .ok (.getfield 112, 3) := by decide +kernel
theorem dX11_goes_192 : decode cX11_goes 192 = .ok (.invokevirtual 115, 3) := by decide +kernel
theorem dX11_goes_195 : decode cX11_goes 195 = .ok (.invokestatic 139, 3) := by decide +kernel
theorem dX11_goes_198 : decode cX11_goes 198 = .ok (.ifCond .eq 52, 3) := by decide +kernel
theorem dX11_goes_201 : decode cX11_goes 201 = .ok (.aload_n 0, 1) := by decide +kernel
theorem dX11_goes_202 : decode cX11_goes 202 = .ok (.getfield 112, 3) := by decide +kernel
theorem dX11_goes_205 : decode cX11_goes 205 = .ok (.aload_n 0, 1) := by decide +kernel
theorem dX11_goes_206 : decode cX11_goes 206 = .ok (.getfield 119, 3) := by decide +kernel
theorem dX11_goes_209 : decode cX11_goes 209 = .ok (.isub, 1) := by decide +kernel
theorem dX11_goes_210 : decode cX11_goes 210 = .ok (.iconst 4, 1) := by decide +kernel
theorem dX11_goes_211 : decode cX11_goes 211 = .ok (.if_icmp .ge 26, 3) := by decide +kernel
theorem dX11_goes_214 : decode cX11_goes 214 = .ok (.aload_n 0, 1) := by decide +kernel
theorem dX11_goes_215 : decode cX11_goes 215 = .ok (.bipush 10, 2) := by decide +kernel
theorem dX11_goes_217 : decode cX11_goes 217 = .ok (.aload_n 0, 1) := by decide +kernel
theorem dX11_goes_218 : decode cX11_goes 218 = .ok (.getfield 126, 3) := by decide +kernel
theorem dX11_goes_221 : decode cX11_goes 221 = .ok (.imul, 1) := by decide +kernel
theorem dX11_goes_222 : decode cX11_goes 222 = .ok (.aload_n 0, 1) := by decide +kernel
theorem dX11_goes_223 : decode cX11_goes 223 = .ok (.aload_n 0, 1) := by decide +kernel
theorem dX11_goes_224 : decode cX11_goes 224 = .ok (.getfield 112, 3) := by decide +kernel
theorem dX11_goes_227 : decode cX11_goes 227 = .ok (.invokevirtual 115, 3) := by decide +kernel
theorem dX11_goes_230 : decode cX11_goes 230 = .ok (.iadd, 1) := by decide +kernel
theorem dX11_goes_231 : decode cX11_goes 231 = .ok (.bipush 48, 2) := by decide +kernel
theorem dX11_goes_233 : decode cX11_goes 233 = .ok (.isub, 1) := by decide +kernel
theorem dX11_goes_234 : decode cX11_goes 234 = .ok (.putfield 126, 3) := by decide +kernel
theorem dX11_goes_237 : decode cX11_goes 237 = .ok (.aload_n 0, 1) := by decide +kernel
theorem dX11_goes_238 : decode cX11_goes 238 = .ok (.dup, 1) := by decide +kernel
theorem dX11_goes_239 : decode cX11_goes 239 = .ok (.getfield 112, 3) := by decide +kernel
theorem dX11_goes_242 : decode cX11_goes 242 = .ok (.iconst 1, 1) := by decide +kernel
theorem dX11_goes_243 : decode cX11_goes 243 = .ok (.iadd, 1) := by decide +kernel
theorem dX11_goes_244 : decode cX11_goes 244 = .ok (.putfield 112, 3) := by decide +kernel
theorem dX11_goes_247 : decode cX11_goes 247 = .ok (.goto (-60), 3) := by decide +kernel
theorem dX11_goes_250 : decode cX11_goes 250 = .ok (.aload_n 0, 1) := by decide +kernel
theorem dX11_goes_251 : decode cX11_goes 251 = .ok (.iconst 2, 1) := by decide +kernel
theorem dX11_goes_252 : decode cX11_goes 252 = .ok (.putfield 132, 3) := by decide +kernel
theorem dX11_goes_255 : decode cX11_goes 255 = .ok (.goto 76, 3) := by decide +kernel
theorem dX11_goes_258 : decode cX11_goes 258 = .ok (.aload_n 0, 1) := by decide +kernel
theorem dX11_goes_259 : decode cX11_goes 259 = .ok (.dup, 1) := by decide +kernel
theorem dX11_goes_260 : decode cX11_goes 260 = .ok (.getfield 112, 3) := by decide +kernel
theorem dX11_goes_263 : decode cX11_goes 263 = .ok (.iconst 1, 1) := by decide +kernel
theorem dX11_goes_264 : decode cX11_goes 264 = .ok (.iadd, 1) := by decide +kernel
theorem dX11_goes_265 : decode cX11_goes 265 = .ok (.putfield 112, 3) := by decide +kernel
theorem dX11_goes_268 : decode cX11_goes 268 = .ok (.aload_n 0, 1) := by decide +kernel
theorem dX11_goes_269 : decode cX11_goes 269 = .ok (.iload_n 1, 1) := by decide +kernel
theorem dX11_goes_270 : decode cX11_goes 270 = .ok (.bipush 59, 2) := by decide +kernel
theorem dX11_goes_272 : decode cX11_goes 272 = .ok (.if_icmp .eq 51, 3) := by decide +kernel
theorem dX11_goes_275 : decode cX11_goes 275 = .ok (.iload_n 1, 1) := by decide +kernel
theorem dX11_goes_276 : decode cX11_goes 276 = .ok (.bipush 40, 2) := by decide +kernel
theorem dX11_goes_278 : decode cX11_goes 278 = .ok (.if_icmp .eq 45, 3) := by decide +kernel
theorem dX11_goes_281 : decode cX11_goes 281 = .ok (.iload_n 1, 1) := by decide +kernel
theorem dX11_goes_282 : decode cX11_goes 282 = .ok (.bipush 41, 2) := by decide +kernel
theorem dX11_goes_284 : decode cX11_goes 284 = .ok (.if_icmp .eq 39, 3) := by decide +kernel
theorem dX11_goes_287 : decode cX11_goes 287 = .ok (.iload_n 1, 1) := by decide +kernel
theorem dX11_goes_288 : decode cX11_goes 288 = .ok (.bipush 43, 2) := by decide +kernel
theorem dX11_goes_290 : decode cX11_goes 290 = .ok (.if_icmp .eq 33, 3) := by decide +kernel
theorem dX11_goes_293 : decode cX11_goes 293 = .ok (.iload_n 1, 1) := by decide +kernel
theorem dX11_goes_294 : decode cX11_goes 294 = .ok (.bipush 45, 2) := by decide +kernel
theorem dX11_goes_296 : decode cX11_goes 296 = .ok (.if_icmp .eq 27, 3) := by decide +kernel
theorem dX11_goes_299 : decode cX11_goes 299 = .ok (.iload_n 1, 1) := by decide +kernel
theorem dX11_goes_300 : decode cX11_goes 300 = .ok (.bipush 42, 2) := by decide +kernel
theorem dX11_goes_302 : decode cX11_goes 302 = .ok (.if_icmp .eq 21, 3) := by decide +kernel
theorem dX11_goes_305 : decode cX11_goes 305 = .ok (.iload_n 1, 1) := by decide +kernel
theorem dX11_goes_306 : decode cX11_goes 306 = .ok (.bipush 47, 2) := by decide +kernel
theorem dX11_goes_308 : decode cX11_goes 308 = .ok (.if_icmp .eq 15, 3) := by decide +kernel
theorem dX11_goes_311 : decode cX11_goes 311 = .ok (.iload_n 1, 1) := by decide +kernel
theorem dX11_goes_312 : decode cX11_goes 312 = .ok (.bipush 60, 2) := by decide +kernel
theorem dX11_goes_314 : decode cX11_goes 314 = .ok (.if_icmp .eq 9, 3) := by decide +kernel
theorem dX11_goes_317 : decode cX11_goes 317 = .ok (.iload_n 1, 1) := by decide +kernel
theorem dX11_goes_318 : decode cX11_goes 318 = .ok (.bipush 61, 2) := by decide +kernel
theorem dX11_goes_320 : decode cX11_goes 320 = .ok (.if_icmp .ne 7, 3) := by decide +kernel
theorem dX11_goes_323 : decode cX11_goes 323 = .ok (.iconst 3, 1) := by decide +kernel
theorem dX11_goes_324 : decode cX11_goes 324 = .ok (.goto 4, 3) := by decide +kernel
theorem dX11_goes_327 : decode cX11_goes 327 = .ok (.iconst 4, 1) := by decide +kernel
theorem dX11_goes_328 : decode cX11_goes 328 = .ok (.putfield 132, 3) := by decide +kernel
theorem dX11_goes_331 : decode cX11_goes 331 = .ok (.aload_n 0, 1) := by decide +kernel
theorem dX11_goes_332 : decode cX11_goes 332 = .ok (.aload_n 0, 1) := by decide +kernel
theorem dX11_goes_333 : decode cX11_goes 333 = .ok (.getfield 112, 3) := by decide +kernel
theorem dX11_goes_336 : decode cX11_goes 336 = .ok (.aload_n 0, 1) := by decide +kernel
theorem dX11_goes_337 : decode cX11_goes 337 = .ok (.getfield 119, 3) := by decide +kernel
theorem dX11_goes_340 : decode cX11_goes 340 = .ok (.isub, 1) := by decide +kernel
theorem dX11_goes_341 : decode cX11_goes 341 = .ok (.putfield 142, 3) := by decide +kernel
theorem dX11_goes_344 : decode cX11_goes 344 = .ok (.return_, 1) := by decide +kernel
theorem dX11_spelled_0 : decode cX11_spelled 0 = .ok (.iload_n 0, 1) := by decide +kernel
theorem dX11_spelled_1 : decode cX11_spelled 1 = .ok (.i2l, 1) := by decide +kernel
theorem dX11_spelled_2 : decode cX11_spelled 2 = .ok (.ldc2_w 145, 3) := by decide +kernel
theorem dX11_spelled_5 : decode cX11_spelled 5 = .ok (.lsub, 1) := by decide +kernel
theorem dX11_spelled_6 : decode cX11_spelled 6 = .ok (.iconst 5, 1) := by decide +kernel
theorem dX11_spelled_7 : decode cX11_spelled 7 = .ok (.lshl, 1) := by decide +kernel
theorem dX11_spelled_8 : decode cX11_spelled 8 = .ok (.iload_n 1, 1) := by decide +kernel
theorem dX11_spelled_9 : decode cX11_spelled 9 = .ok (.bipush 96, 2) := by decide +kernel
theorem dX11_spelled_11 : decode cX11_spelled 11 = .ok (.isub, 1) := by decide +kernel
theorem dX11_spelled_12 : decode cX11_spelled 12 = .ok (.i2l, 1) := by decide +kernel
theorem dX11_spelled_13 : decode cX11_spelled 13 = .ok (.lor, 1) := by decide +kernel
theorem dX11_spelled_14 : decode cX11_spelled 14 = .ok (.lstore 6, 2) := by decide +kernel
theorem dX11_spelled_16 : decode cX11_spelled 16 = .ok (.iload_n 2, 1) := by decide +kernel
theorem dX11_spelled_17 : decode cX11_spelled 17 = .ok (.ifCond .eq 15, 3) := by decide +kernel
theorem dX11_spelled_20 : decode cX11_spelled 20 = .ok (.lload 6, 2) := by decide +kernel
theorem dX11_spelled_22 : decode cX11_spelled 22 = .ok (.iconst 5, 1) := by decide +kernel
theorem dX11_spelled_23 : decode cX11_spelled 23 = .ok (.lshl, 1) := by decide +kernel
theorem dX11_spelled_24 : decode cX11_spelled 24 = .ok (.iload_n 2, 1) := by decide +kernel
theorem dX11_spelled_25 : decode cX11_spelled 25 = .ok (.bipush 96, 2) := by decide +kernel
theorem dX11_spelled_27 : decode cX11_spelled 27 = .ok (.isub, 1) := by decide +kernel
theorem dX11_spelled_28 : decode cX11_spelled 28 = .ok (.i2l, 1) := by decide +kernel
theorem dX11_spelled_29 : decode cX11_spelled 29 = .ok (.lor, 1) := by decide +kernel
theorem dX11_spelled_30 : decode cX11_spelled 30 = .ok (.lstore 6, 2) := by decide +kernel
theorem dX11_spelled_32 : decode cX11_spelled 32 = .ok (.iload_n 3, 1) := by decide +kernel
theorem dX11_spelled_33 : decode cX11_spelled 33 = .ok (.ifCond .eq 15, 3) := by decide +kernel
theorem dX11_spelled_36 : decode cX11_spelled 36 = .ok (.lload 6, 2) := by decide +kernel
theorem dX11_spelled_38 : decode cX11_spelled 38 = .ok (.iconst 5, 1) := by decide +kernel
theorem dX11_spelled_39 : decode cX11_spelled 39 = .ok (.lshl, 1) := by decide +kernel
theorem dX11_spelled_40 : decode cX11_spelled 40 = .ok (.iload_n 3, 1) := by decide +kernel
theorem dX11_spelled_41 : decode cX11_spelled 41 = .ok (.bipush 96, 2) := by decide +kernel
theorem dX11_spelled_43 : decode cX11_spelled 43 = .ok (.isub, 1) := by decide +kernel
theorem dX11_spelled_44 : decode cX11_spelled 44 = .ok (.i2l, 1) := by decide +kernel
theorem dX11_spelled_45 : decode cX11_spelled 45 = .ok (.lor, 1) := by decide +kernel
theorem dX11_spelled_46 : decode cX11_spelled 46 = .ok (.lstore 6, 2) := by decide +kernel
theorem dX11_spelled_48 : decode cX11_spelled 48 = .ok (.iload 4, 2) := by decide +kernel
theorem dX11_spelled_50 : decode cX11_spelled 50 = .ok (.ifCond .eq 16, 3) := by decide +kernel
theorem dX11_spelled_53 : decode cX11_spelled 53 = .ok (.lload 6, 2) := by decide +kernel
theorem dX11_spelled_55 : decode cX11_spelled 55 = .ok (.iconst 5, 1) := by decide +kernel
theorem dX11_spelled_56 : decode cX11_spelled 56 = .ok (.lshl, 1) := by decide +kernel
theorem dX11_spelled_57 : decode cX11_spelled 57 = .ok (.iload 4, 2) := by decide +kernel
theorem dX11_spelled_59 : decode cX11_spelled 59 = .ok (.bipush 96, 2) := by decide +kernel
theorem dX11_spelled_61 : decode cX11_spelled 61 = .ok (.isub, 1) := by decide +kernel
theorem dX11_spelled_62 : decode cX11_spelled 62 = .ok (.i2l, 1) := by decide +kernel
theorem dX11_spelled_63 : decode cX11_spelled 63 = .ok (.lor, 1) := by decide +kernel
theorem dX11_spelled_64 : decode cX11_spelled 64 = .ok (.lstore 6, 2) := by decide +kernel
theorem dX11_spelled_66 : decode cX11_spelled 66 = .ok (.iload 5, 2) := by decide +kernel
theorem dX11_spelled_68 : decode cX11_spelled 68 = .ok (.ifCond .eq 16, 3) := by decide +kernel
theorem dX11_spelled_71 : decode cX11_spelled 71 = .ok (.lload 6, 2) := by decide +kernel
theorem dX11_spelled_73 : decode cX11_spelled 73 = .ok (.iconst 5, 1) := by decide +kernel
theorem dX11_spelled_74 : decode cX11_spelled 74 = .ok (.lshl, 1) := by decide +kernel
theorem dX11_spelled_75 : decode cX11_spelled 75 = .ok (.iload 5, 2) := by decide +kernel
theorem dX11_spelled_77 : decode cX11_spelled 77 = .ok (.bipush 96, 2) := by decide +kernel
theorem dX11_spelled_79 : decode cX11_spelled 79 = .ok (.isub, 1) := by decide +kernel
theorem dX11_spelled_80 : decode cX11_spelled 80 = .ok (.i2l, 1) := by decide +kernel
theorem dX11_spelled_81 : decode cX11_spelled 81 = .ok (.lor, 1) := by decide +kernel
theorem dX11_spelled_82 : decode cX11_spelled 82 = .ok (.lstore 6, 2) := by decide +kernel
theorem dX11_spelled_84 : decode cX11_spelled 84 = .ok (.lload 6, 2) := by decide +kernel
theorem dX11_spelled_86 : decode cX11_spelled 86 = .ok (.lreturn, 1) := by decide +kernel
theorem dX11_letters_0 : decode cX11_letters 0 = .ok (.iload_n 0, 1) := by decide +kernel
theorem dX11_letters_1 : decode cX11_letters 1 = .ok (.tableswitch 300 0 15 #[79, 93, 108, 121, 134, 148, 161, 174, 189, 203, 218, 234, 246, 260, 275, 288], 79) := by decide +kernel
theorem dX11_letters_80 : decode cX11_letters 80 = .ok (.bipush 112, 2) := by decide +kernel
theorem dX11_letters_82 : decode cX11_letters 82 = .ok (.bipush 97, 2) := by decide +kernel
theorem dX11_letters_84 : decode cX11_letters 84 = .ok (.bipush 99, 2) := by decide +kernel
theorem dX11_letters_86 : decode cX11_letters 86 = .ok (.bipush 101, 2) := by decide +kernel
theorem dX11_letters_88 : decode cX11_letters 88 = .ok (.iconst 0, 1) := by decide +kernel
theorem dX11_letters_89 : decode cX11_letters 89 = .ok (.iconst 0, 1) := by decide +kernel
theorem dX11_letters_90 : decode cX11_letters 90 = .ok (.invokestatic 147, 3) := by decide +kernel
theorem dX11_letters_93 : decode cX11_letters 93 = .ok (.lreturn, 1) := by decide +kernel
theorem dX11_letters_94 : decode cX11_letters 94 = .ok (.bipush 115, 2) := by decide +kernel
theorem dX11_letters_96 : decode cX11_letters 96 = .ok (.bipush 116, 2) := by decide +kernel
theorem dX11_letters_98 : decode cX11_letters 98 = .ok (.bipush 101, 2) := by decide +kernel
theorem dX11_letters_100 : decode cX11_letters 100 = .ok (.bipush 112, 2) := by decide +kernel
theorem dX11_letters_102 : decode cX11_letters 102 = .ok (.bipush 115, 2) := by decide +kernel
theorem dX11_letters_104 : decode cX11_letters 104 = .ok (.iconst 0, 1) := by decide +kernel
theorem dX11_letters_105 : decode cX11_letters 105 = .ok (.invokestatic 147, 3) := by decide +kernel
theorem dX11_letters_108 : decode cX11_letters 108 = .ok (.lreturn, 1) := by decide +kernel
theorem dX11_letters_109 : decode cX11_letters 109 = .ok (.bipush 102, 2) := by decide +kernel
theorem dX11_letters_111 : decode cX11_letters 111 = .ok (.bipush 97, 2) := by decide +kernel
theorem dX11_letters_113 : decode cX11_letters 113 = .ok (.bipush 114, 2) := by decide +kernel
theorem dX11_letters_115 : decode cX11_letters 115 = .ok (.iconst 0, 1) := by decide +kernel
theorem dX11_letters_116 : decode cX11_letters 116 = .ok (.iconst 0, 1) := by decide +kernel
theorem dX11_letters_117 : decode cX11_letters 117 = .ok (.iconst 0, 1) := by decide +kernel
theorem dX11_letters_118 : decode cX11_letters 118 = .ok (.invokestatic 147, 3) := by decide +kernel
theorem dX11_letters_121 : decode cX11_letters 121 = .ok (.lreturn, 1) := by decide +kernel
theorem dX11_letters_122 : decode cX11_letters 122 = .ok (.bipush 109, 2) := by decide +kernel
theorem dX11_letters_124 : decode cX11_letters 124 = .ok (.bipush 101, 2) := by decide +kernel
theorem dX11_letters_126 : decode cX11_letters 126 = .ok (.bipush 116, 2) := by decide +kernel
theorem dX11_letters_128 : decode cX11_letters 128 = .ok (.iconst 0, 1) := by decide +kernel
theorem dX11_letters_129 : decode cX11_letters 129 = .ok (.iconst 0, 1) := by decide +kernel
theorem dX11_letters_130 : decode cX11_letters 130 = .ok (.iconst 0, 1) := by decide +kernel
theorem dX11_letters_131 : decode cX11_letters 131 = .ok (.invokestatic 147, 3) := by decide +kernel
theorem dX11_letters_134 : decode cX11_letters 134 = .ok (.lreturn, 1) := by decide +kernel
theorem dX11_letters_135 : decode cX11_letters 135 = .ok (.bipush 119, 2) := by decide +kernel
theorem dX11_letters_137 : decode cX11_letters 137 = .ok (.bipush 105, 2) := by decide +kernel
theorem dX11_letters_139 : decode cX11_letters 139 = .ok (.bipush 116, 2) := by decide +kernel
theorem dX11_letters_141 : decode cX11_letters 141 = .ok (.bipush 104, 2) := by decide +kernel
theorem dX11_letters_143 : decode cX11_letters 143 = .ok (.iconst 0, 1) := by decide +kernel
theorem dX11_letters_144 : decode cX11_letters 144 = .ok (.iconst 0, 1) := by decide +kernel
theorem dX11_letters_145 : decode cX11_letters 145 = .ok (.invokestatic 147, 3) := by decide +kernel
theorem dX11_letters_148 : decode cX11_letters 148 = .ok (.lreturn, 1) := by decide +kernel
theorem dX11_letters_149 : decode cX11_letters 149 = .ok (.bipush 100, 2) := by decide +kernel
theorem dX11_letters_151 : decode cX11_letters 151 = .ok (.bipush 97, 2) := by decide +kernel
theorem dX11_letters_153 : decode cX11_letters 153 = .ok (.bipush 121, 2) := by decide +kernel
theorem dX11_letters_155 : decode cX11_letters 155 = .ok (.iconst 0, 1) := by decide +kernel
theorem dX11_letters_156 : decode cX11_letters 156 = .ok (.iconst 0, 1) := by decide +kernel
theorem dX11_letters_157 : decode cX11_letters 157 = .ok (.iconst 0, 1) := by decide +kernel
theorem dX11_letters_158 : decode cX11_letters 158 = .ok (.invokestatic 147, 3) := by decide +kernel
theorem dX11_letters_161 : decode cX11_letters 161 = .ok (.lreturn, 1) := by decide +kernel
theorem dX11_letters_162 : decode cX11_letters 162 = .ok (.bipush 105, 2) := by decide +kernel
theorem dX11_letters_164 : decode cX11_letters 164 = .ok (.bipush 110, 2) := by decide +kernel
theorem dX11_letters_166 : decode cX11_letters 166 = .ok (.bipush 107, 2) := by decide +kernel
theorem dX11_letters_168 : decode cX11_letters 168 = .ok (.iconst 0, 1) := by decide +kernel
theorem dX11_letters_169 : decode cX11_letters 169 = .ok (.iconst 0, 1) := by decide +kernel
theorem dX11_letters_170 : decode cX11_letters 170 = .ok (.iconst 0, 1) := by decide +kernel
theorem dX11_letters_171 : decode cX11_letters 171 = .ok (.invokestatic 147, 3) := by decide +kernel
theorem dX11_letters_174 : decode cX11_letters 174 = .ok (.lreturn, 1) := by decide +kernel
theorem dX11_letters_175 : decode cX11_letters 175 = .ok (.bipush 112, 2) := by decide +kernel
theorem dX11_letters_177 : decode cX11_letters 177 = .ok (.bipush 108, 2) := by decide +kernel
theorem dX11_letters_179 : decode cX11_letters 179 = .ok (.bipush 97, 2) := by decide +kernel
theorem dX11_letters_181 : decode cX11_letters 181 = .ok (.bipush 99, 2) := by decide +kernel
theorem dX11_letters_183 : decode cX11_letters 183 = .ok (.bipush 101, 2) := by decide +kernel
theorem dX11_letters_185 : decode cX11_letters 185 = .ok (.iconst 0, 1) := by decide +kernel
theorem dX11_letters_186 : decode cX11_letters 186 = .ok (.invokestatic 147, 3) := by decide +kernel
theorem dX11_letters_189 : decode cX11_letters 189 = .ok (.lreturn, 1) := by decide +kernel
theorem dX11_letters_190 : decode cX11_letters 190 = .ok (.bipush 100, 2) := by decide +kernel
theorem dX11_letters_192 : decode cX11_letters 192 = .ok (.bipush 101, 2) := by decide +kernel
theorem dX11_letters_194 : decode cX11_letters 194 = .ok (.bipush 101, 2) := by decide +kernel
theorem dX11_letters_196 : decode cX11_letters 196 = .ok (.bipush 100, 2) := by decide +kernel
theorem dX11_letters_198 : decode cX11_letters 198 = .ok (.iconst 0, 1) := by decide +kernel
theorem dX11_letters_199 : decode cX11_letters 199 = .ok (.iconst 0, 1) := by decide +kernel
theorem dX11_letters_200 : decode cX11_letters 200 = .ok (.invokestatic 147, 3) := by decide +kernel
theorem dX11_letters_203 : decode cX11_letters 203 = .ok (.lreturn, 1) := by decide +kernel
theorem dX11_letters_204 : decode cX11_letters 204 = .ok (.bipush 115, 2) := by decide +kernel
theorem dX11_letters_206 : decode cX11_letters 206 = .ok (.bipush 116, 2) := by decide +kernel
theorem dX11_letters_208 : decode cX11_letters 208 = .ok (.bipush 105, 2) := by decide +kernel
theorem dX11_letters_210 : decode cX11_letters 210 = .ok (.bipush 108, 2) := by decide +kernel
theorem dX11_letters_212 : decode cX11_letters 212 = .ok (.bipush 101, 2) := by decide +kernel
theorem dX11_letters_214 : decode cX11_letters 214 = .ok (.iconst 0, 1) := by decide +kernel
theorem dX11_letters_215 : decode cX11_letters 215 = .ok (.invokestatic 147, 3) := by decide +kernel
theorem dX11_letters_218 : decode cX11_letters 218 = .ok (.lreturn, 1) := by decide +kernel
theorem dX11_letters_219 : decode cX11_letters 219 = .ok (.bipush 112, 2) := by decide +kernel
theorem dX11_letters_221 : decode cX11_letters 221 = .ok (.bipush 101, 2) := by decide +kernel
theorem dX11_letters_223 : decode cX11_letters 223 = .ok (.bipush 114, 2) := by decide +kernel
theorem dX11_letters_225 : decode cX11_letters 225 = .ok (.bipush 115, 2) := by decide +kernel
theorem dX11_letters_227 : decode cX11_letters 227 = .ok (.bipush 111, 2) := by decide +kernel
theorem dX11_letters_229 : decode cX11_letters 229 = .ok (.bipush 110, 2) := by decide +kernel
theorem dX11_letters_231 : decode cX11_letters 231 = .ok (.invokestatic 147, 3) := by decide +kernel
theorem dX11_letters_234 : decode cX11_letters 234 = .ok (.lreturn, 1) := by decide +kernel
theorem dX11_letters_235 : decode cX11_letters 235 = .ok (.bipush 116, 2) := by decide +kernel
theorem dX11_letters_237 : decode cX11_letters 237 = .ok (.bipush 111, 2) := by decide +kernel
theorem dX11_letters_239 : decode cX11_letters 239 = .ok (.iconst 0, 1) := by decide +kernel
theorem dX11_letters_240 : decode cX11_letters 240 = .ok (.iconst 0, 1) := by decide +kernel
theorem dX11_letters_241 : decode cX11_letters 241 = .ok (.iconst 0, 1) := by decide +kernel
theorem dX11_letters_242 : decode cX11_letters 242 = .ok (.iconst 0, 1) := by decide +kernel
theorem dX11_letters_243 : decode cX11_letters 243 = .ok (.invokestatic 147, 3) := by decide +kernel
theorem dX11_letters_246 : decode cX11_letters 246 = .ok (.lreturn, 1) := by decide +kernel
theorem dX11_letters_247 : decode cX11_letters 247 = .ok (.bipush 103, 2) := by decide +kernel
theorem dX11_letters_249 : decode cX11_letters 249 = .ok (.bipush 111, 2) := by decide +kernel
theorem dX11_letters_251 : decode cX11_letters 251 = .ok (.bipush 101, 2) := by decide +kernel
theorem dX11_letters_253 : decode cX11_letters 253 = .ok (.bipush 115, 2) := by decide +kernel
theorem dX11_letters_255 : decode cX11_letters 255 = .ok (.iconst 0, 1) := by decide +kernel
theorem dX11_letters_256 : decode cX11_letters 256 = .ok (.iconst 0, 1) := by decide +kernel
theorem dX11_letters_257 : decode cX11_letters 257 = .ok (.invokestatic 147, 3) := by decide +kernel
theorem dX11_letters_260 : decode cX11_letters 260 = .ok (.lreturn, 1) := by decide +kernel
theorem dX11_letters_261 : decode cX11_letters 261 = .ok (.bipush 102, 2) := by decide +kernel
theorem dX11_letters_263 : decode cX11_letters 263 = .ok (.bipush 97, 2) := by decide +kernel
theorem dX11_letters_265 : decode cX11_letters 265 = .ok (.bipush 100, 2) := by decide +kernel
theorem dX11_letters_267 : decode cX11_letters 267 = .ok (.bipush 101, 2) := by decide +kernel
theorem dX11_letters_269 : decode cX11_letters 269 = .ok (.bipush 115, 2) := by decide +kernel
theorem dX11_letters_271 : decode cX11_letters 271 = .ok (.iconst 0, 1) := by decide +kernel
theorem dX11_letters_272 : decode cX11_letters 272 = .ok (.invokestatic 147, 3) := by decide +kernel
theorem dX11_letters_275 : decode cX11_letters 275 = .ok (.lreturn, 1) := by decide +kernel
theorem dX11_letters_276 : decode cX11_letters 276 = .ok (.bipush 97, 2) := by decide +kernel
theorem dX11_letters_278 : decode cX11_letters 278 = .ok (.bipush 110, 2) := by decide +kernel
theorem dX11_letters_280 : decode cX11_letters 280 = .ok (.bipush 100, 2) := by decide +kernel
theorem dX11_letters_282 : decode cX11_letters 282 = .ok (.iconst 0, 1) := by decide +kernel
theorem dX11_letters_283 : decode cX11_letters 283 = .ok (.iconst 0, 1) := by decide +kernel
theorem dX11_letters_284 : decode cX11_letters 284 = .ok (.iconst 0, 1) := by decide +kernel
theorem dX11_letters_285 : decode cX11_letters 285 = .ok (.invokestatic 147, 3) := by decide +kernel
theorem dX11_letters_288 : decode cX11_letters 288 = .ok (.lreturn, 1) := by decide +kernel
theorem dX11_letters_289 : decode cX11_letters 289 = .ok (.bipush 111, 2) := by decide +kernel
theorem dX11_letters_291 : decode cX11_letters 291 = .ok (.bipush 114, 2) := by decide +kernel
theorem dX11_letters_293 : decode cX11_letters 293 = .ok (.iconst 0, 1) := by decide +kernel
theorem dX11_letters_294 : decode cX11_letters 294 = .ok (.iconst 0, 1) := by decide +kernel
theorem dX11_letters_295 : decode cX11_letters 295 = .ok (.iconst 0, 1) := by decide +kernel
theorem dX11_letters_296 : decode cX11_letters 296 = .ok (.iconst 0, 1) := by decide +kernel
theorem dX11_letters_297 : decode cX11_letters 297 = .ok (.invokestatic 147, 3) := by decide +kernel
theorem dX11_letters_300 : decode cX11_letters 300 = .ok (.lreturn, 1) := by decide +kernel
theorem dX11_letters_301 : decode cX11_letters 301 = .ok (.bipush 110, 2) := by decide +kernel
theorem dX11_letters_303 : decode cX11_letters 303 = .ok (.bipush 111, 2) := by decide +kernel
theorem dX11_letters_305 : decode cX11_letters 305 = .ok (.bipush 116, 2) := by decide +kernel
theorem dX11_letters_307 : decode cX11_letters 307 = .ok (.iconst 0, 1) := by decide +kernel
theorem dX11_letters_308 : decode cX11_letters 308 = .ok (.iconst 0, 1) := by decide +kernel
theorem dX11_letters_309 : decode cX11_letters 309 = .ok (.iconst 0, 1) := by decide +kernel
theorem dX11_letters_310 : decode cX11_letters 310 = .ok (.invokestatic 147, 3) := by decide +kernel
theorem dX11_letters_313 : decode cX11_letters 313 = .ok (.lreturn, 1) := by decide +kernel
theorem dX11_knownWord_0 : decode cX11_knownWord 0 = .ok (.aload_n 0, 1) := by decide +kernel
theorem dX11_knownWord_1 : decode cX11_knownWord 1 = .ok (.getfield 132, 3) := by decide +kernel
theorem dX11_knownWord_4 : decode cX11_knownWord 4 = .ok (.iconst 1, 1) := by decide +kernel
theorem dX11_knownWord_5 : decode cX11_knownWord 5 = .ok (.if_icmp .ne 12, 3) := by decide +kernel
theorem dX11_knownWord_8 : decode cX11_knownWord 8 = .ok (.aload_n 0, 1) := by decide +kernel
theorem dX11_knownWord_9 : decode cX11_knownWord 9 = .ok (.getfield 142, 3) := by decide +kernel
theorem dX11_knownWord_12 : decode cX11_knownWord 12 = .ok (.bipush 6, 2) := by decide +kernel
theorem dX11_knownWord_14 : decode cX11_knownWord 14 = .ok (.if_icmp .le 5, 3) := by decide +kernel
theorem dX11_knownWord_17 : decode cX11_knownWord 17 = .ok (.iconst (-1), 1) := by decide +kernel
theorem dX11_knownWord_18 : decode cX11_knownWord 18 = .ok (.ireturn, 1) := by decide +kernel
theorem dX11_knownWord_19 : decode cX11_knownWord 19 = .ok (.iconst 0, 1) := by decide +kernel
theorem dX11_knownWord_20 : decode cX11_knownWord 20 = .ok (.istore_n 1, 1) := by decide +kernel
theorem dX11_knownWord_21 : decode cX11_knownWord 21 = .ok (.iload_n 1, 1) := by decide +kernel
theorem dX11_knownWord_22 : decode cX11_knownWord 22 = .ok (.bipush 17, 2) := by decide +kernel
theorem dX11_knownWord_24 : decode cX11_knownWord 24 = .ok (.if_icmp .ge 23, 3) := by decide +kernel
theorem dX11_knownWord_27 : decode cX11_knownWord 27 = .ok (.iload_n 1, 1) := by decide +kernel
theorem dX11_knownWord_28 : decode cX11_knownWord 28 = .ok (.invokestatic 151, 3) := by decide +kernel
theorem dX11_knownWord_31 : decode cX11_knownWord 31 = .ok (.aload_n 0, 1) := by decide +kernel
theorem dX11_knownWord_32 : decode cX11_knownWord 32 = .ok (.getfield 122, 3) := by decide +kernel
theorem dX11_knownWord_35 : decode cX11_knownWord 35 = .ok (.lcmp, 1) := by decide +kernel
theorem dX11_knownWord_36 : decode cX11_knownWord 36 = .ok (.ifCond .ne 5, 3) := by decide +kernel
theorem dX11_knownWord_39 : decode cX11_knownWord 39 = .ok (.iload_n 1, 1) := by decide +kernel
theorem dX11_knownWord_40 : decode cX11_knownWord 40 = .ok (.ireturn, 1) := by decide +kernel
theorem dX11_knownWord_41 : decode cX11_knownWord 41 = .ok (.iinc 1 1, 3) := by decide +kernel
theorem dX11_knownWord_44 : decode cX11_knownWord 44 = .ok (.goto (-23), 3) := by decide +kernel
theorem dX11_knownWord_47 : decode cX11_knownWord 47 = .ok (.iconst (-1), 1) := by decide +kernel
theorem dX11_knownWord_48 : decode cX11_knownWord 48 = .ok (.ireturn, 1) := by decide +kernel
theorem dX11_wrong_0 : decode cX11_wrong 0 = .ok (.aload_n 0, 1) := by decide +kernel
theorem dX11_wrong_1 : decode cX11_wrong 1 = .ok (.getfield 155, 3) := by decide +kernel
theorem dX11_wrong_4 : decode cX11_wrong 4 = .ok (.ifCond .eq 4, 3) := by decide +kernel
theorem dX11_wrong_7 : decode cX11_wrong 7 = .ok (.return_, 1) := by decide +kernel
theorem dX11_wrong_8 : decode cX11_wrong 8 = .ok (.aload_n 0, 1) := by decide +kernel
theorem dX11_wrong_9 : decode cX11_wrong 9 = .ok (.iload_n 1, 1) := by decide +kernel
theorem dX11_wrong_10 : decode cX11_wrong 10 = .ok (.putfield 155, 3) := by decide +kernel
theorem dX11_wrong_13 : decode cX11_wrong 13 = .ok (.aload_n 0, 1) := by decide +kernel
theorem dX11_wrong_14 : decode cX11_wrong 14 = .ok (.aload_n 0, 1) := by decide +kernel
theorem dX11_wrong_15 : decode cX11_wrong 15 = .ok (.getfield 119, 3) := by decide +kernel
theorem dX11_wrong_18 : decode cX11_wrong 18 = .ok (.putfield 26, 3) := by decide +kernel
theorem dX11_wrong_21 : decode cX11_wrong 21 = .ok (.return_, 1) := by decide +kernel
theorem dX11_isGood_0 : decode cX11_isGood 0 = .ok (.aload_n 0, 1) := by decide +kernel
theorem dX11_isGood_1 : decode cX11_isGood 1 = .ok (.getfield 155, 3) := by decide +kernel
theorem dX11_isGood_4 : decode cX11_isGood 4 = .ok (.ifCond .ne 7, 3) := by decide +kernel
theorem dX11_isGood_7 : decode cX11_isGood 7 = .ok (.iconst 1, 1) := by decide +kernel
theorem dX11_isGood_8 : decode cX11_isGood 8 = .ok (.goto 4, 3) := by decide +kernel
theorem dX11_isGood_11 : decode cX11_isGood 11 = .ok (.iconst 0, 1) := by decide +kernel
theorem dX11_isGood_12 : decode cX11_isGood 12 = .ok (.ireturn, 1) := by decide +kernel
theorem dX11_isSign_0 : decode cX11_isSign 0 = .ok (.aload_n 0, 1) := by decide +kernel
theorem dX11_isSign_1 : decode cX11_isSign 1 = .ok (.getfield 132, 3) := by decide +kernel
theorem dX11_isSign_4 : decode cX11_isSign 4 = .ok (.iconst 3, 1) := by decide +kernel
theorem dX11_isSign_5 : decode cX11_isSign 5 = .ok (.if_icmp .ne 15, 3) := by decide +kernel
theorem dX11_isSign_8 : decode cX11_isSign 8 = .ok (.aload_n 0, 1) := by decide +kernel
theorem dX11_isSign_9 : decode cX11_isSign 9 = .ok (.getfield 129, 3) := by decide +kernel
theorem dX11_isSign_12 : decode cX11_isSign 12 = .ok (.iload_n 1, 1) := by decide +kernel
theorem dX11_isSign_13 : decode cX11_isSign 13 = .ok (.if_icmp .ne 7, 3) := by decide +kernel
theorem dX11_isSign_16 : decode cX11_isSign 16 = .ok (.iconst 1, 1) := by decide +kernel
theorem dX11_isSign_17 : decode cX11_isSign 17 = .ok (.goto 4, 3) := by decide +kernel
theorem dX11_isSign_20 : decode cX11_isSign 20 = .ok (.iconst 0, 1) := by decide +kernel
theorem dX11_isSign_21 : decode cX11_isSign 21 = .ok (.ireturn, 1) := by decide +kernel
theorem dX11_need_0 : decode cX11_need 0 = .ok (.aload_n 0, 1) := by decide +kernel
theorem dX11_need_1 : decode cX11_need 1 = .ok (.invokevirtual 158, 3) := by decide +kernel
theorem dX11_need_4 : decode cX11_need 4 = .ok (.ifCond .ne 4, 3) := by decide +kernel
theorem dX11_need_7 : decode cX11_need 7 = .ok (.return_, 1) := by decide +kernel
theorem dX11_need_8 : decode cX11_need 8 = .ok (.iload_n 1, 1) := by decide +kernel
theorem dX11_need_9 : decode cX11_need 9 = .ok (.ifCond .eq 10, 3) := by decide +kernel
theorem dX11_need_12 : decode cX11_need 12 = .ok (.aload_n 0, 1) := by decide +kernel
theorem dX11_need_13 : decode cX11_need 13 = .ok (.invokevirtual 162, 3) := by decide +kernel
theorem dX11_need_16 : decode cX11_need 16 = .ok (.goto 8, 3) := by decide +kernel
theorem dX11_need_19 : decode cX11_need 19 = .ok (.aload_n 0, 1) := by decide +kernel
theorem dX11_need_20 : decode cX11_need 20 = .ok (.iconst 1, 1) := by decide +kernel
theorem dX11_need_21 : decode cX11_need 21 = .ok (.invokevirtual 165, 3) := by decide +kernel
theorem dX11_need_24 : decode cX11_need 24 = .ok (.return_, 1) := by decide +kernel
theorem dX11_number_0 : decode cX11_number 0 = .ok (.aload_n 0, 1) := by decide +kernel
theorem dX11_number_1 : decode cX11_number 1 = .ok (.invokevirtual 158, 3) := by decide +kernel
theorem dX11_number_4 : decode cX11_number 4 = .ok (.ifCond .ne 5, 3) := by decide +kernel
theorem dX11_number_7 : decode cX11_number 7 = .ok (.iconst 0, 1) := by decide +kernel
theorem dX11_number_8 : decode cX11_number 8 = .ok (.ireturn, 1) := by decide +kernel
theorem dX11_number_9 : decode cX11_number 9 = .ok (.aload_n 0, 1) := by decide +kernel
theorem dX11_number_10 : decode cX11_number 10 = .ok (.getfield 132, 3) := by decide +kernel
theorem dX11_number_13 : decode cX11_number 13 = .ok (.iconst 2, 1) := by decide +kernel
theorem dX11_number_14 : decode cX11_number 14 = .ok (.if_icmp .eq 11, 3) := by decide +kernel
theorem dX11_number_17 : decode cX11_number 17 = .ok (.aload_n 0, 1) := by decide +kernel
theorem dX11_number_18 : decode cX11_number 18 = .ok (.iconst 1, 1) := by decide +kernel
theorem dX11_number_19 : decode cX11_number 19 = .ok (.invokevirtual 165, 3) := by decide +kernel
theorem dX11_number_22 : decode cX11_number 22 = .ok (.goto 32, 3) := by decide +kernel
theorem dX11_number_25 : decode cX11_number 25 = .ok (.aload_n 0, 1) := by decide +kernel
theorem dX11_number_26 : decode cX11_number 26 = .ok (.getfield 142, 3) := by decide +kernel
theorem dX11_number_29 : decode cX11_number 29 = .ok (.iconst 4, 1) := by decide +kernel
theorem dX11_number_30 : decode cX11_number 30 = .ok (.if_icmp .gt 19, 3) := by decide +kernel
theorem dX11_number_33 : decode cX11_number 33 = .ok (.aload_n 0, 1) := by decide +kernel
theorem dX11_number_34 : decode cX11_number 34 = .ok (.getfield 126, 3) := by decide +kernel
theorem dX11_number_37 : decode cX11_number 37 = .ok (.iload_n 1, 1) := by decide +kernel
theorem dX11_number_38 : decode cX11_number 38 = .ok (.if_icmp .lt 11, 3) := by decide +kernel
theorem dX11_number_41 : decode cX11_number 41 = .ok (.aload_n 0, 1) := by decide +kernel
theorem dX11_number_42 : decode cX11_number 42 = .ok (.getfield 126, 3) := by decide +kernel
theorem dX11_number_45 : decode cX11_number 45 = .ok (.iload_n 2, 1) := by decide +kernel
theorem dX11_number_46 : decode cX11_number 46 = .ok (.if_icmp .le 8, 3) := by decide +kernel
theorem dX11_number_49 : decode cX11_number 49 = .ok (.aload_n 0, 1) := by decide +kernel
theorem dX11_number_50 : decode cX11_number 50 = .ok (.iconst 2, 1) := by decide +kernel
theorem dX11_number_51 : decode cX11_number 51 = .ok (.invokevirtual 165, 3) := by decide +kernel
theorem dX11_number_54 : decode cX11_number 54 = .ok (.aload_n 0, 1) := by decide +kernel
theorem dX11_number_55 : decode cX11_number 55 = .ok (.getfield 126, 3) := by decide +kernel
theorem dX11_number_58 : decode cX11_number 58 = .ok (.istore_n 3, 1) := by decide +kernel
theorem dX11_number_59 : decode cX11_number 59 = .ok (.aload_n 0, 1) := by decide +kernel
theorem dX11_number_60 : decode cX11_number 60 = .ok (.invokevirtual 158, 3) := by decide +kernel
theorem dX11_number_63 : decode cX11_number 63 = .ok (.ifCond .eq 7, 3) := by decide +kernel
theorem dX11_number_66 : decode cX11_number 66 = .ok (.aload_n 0, 1) := by decide +kernel
theorem dX11_number_67 : decode cX11_number 67 = .ok (.invokevirtual 162, 3) := by decide +kernel
theorem dX11_number_70 : decode cX11_number 70 = .ok (.iload_n 3, 1) := by decide +kernel
theorem dX11_number_71 : decode cX11_number 71 = .ok (.ireturn, 1) := by decide +kernel
theorem dX11_isOneOf_0 : decode cX11_isOneOf 0 = .ok (.aload_n 0, 1) := by decide +kernel
theorem dX11_isOneOf_1 : decode cX11_isOneOf 1 = .ok (.invokevirtual 158, 3) := by decide +kernel
theorem dX11_isOneOf_4 : decode cX11_isOneOf 4 = .ok (.ifCond .ne 5, 3) := by decide +kernel
theorem dX11_isOneOf_7 : decode cX11_isOneOf 7 = .ok (.iconst 0, 1) := by decide +kernel
theorem dX11_isOneOf_8 : decode cX11_isOneOf 8 = .ok (.ireturn, 1) := by decide +kernel
theorem dX11_isOneOf_9 : decode cX11_isOneOf 9 = .ok (.aload_n 0, 1) := by decide +kernel
theorem dX11_isOneOf_10 : decode cX11_isOneOf 10 = .ok (.getfield 132, 3) := by decide +kernel
theorem dX11_isOneOf_13 : decode cX11_isOneOf 13 = .ok (.iconst 2, 1) := by decide +kernel
theorem dX11_isOneOf_14 : decode cX11_isOneOf 14 = .ok (.if_icmp .eq 11, 3) := by decide +kernel
theorem dX11_isOneOf_17 : decode cX11_isOneOf 17 = .ok (.aload_n 0, 1) := by decide +kernel
theorem dX11_isOneOf_18 : decode cX11_isOneOf 18 = .ok (.iconst 1, 1) := by decide +kernel
theorem dX11_isOneOf_19 : decode cX11_isOneOf 19 = .ok (.invokevirtual 165, 3) := by decide +kernel
theorem dX11_isOneOf_22 : decode cX11_isOneOf 22 = .ok (.goto 32, 3) := by decide +kernel
theorem dX11_isOneOf_25 : decode cX11_isOneOf 25 = .ok (.aload_n 0, 1) := by decide +kernel
theorem dX11_isOneOf_26 : decode cX11_isOneOf 26 = .ok (.getfield 142, 3) := by decide +kernel
theorem dX11_isOneOf_29 : decode cX11_isOneOf 29 = .ok (.iconst 4, 1) := by decide +kernel
theorem dX11_isOneOf_30 : decode cX11_isOneOf 30 = .ok (.if_icmp .le 11, 3) := by decide +kernel
theorem dX11_isOneOf_33 : decode cX11_isOneOf 33 = .ok (.aload_n 0, 1) := by decide +kernel
theorem dX11_isOneOf_34 : decode cX11_isOneOf 34 = .ok (.iconst 2, 1) := by decide +kernel
theorem dX11_isOneOf_35 : decode cX11_isOneOf 35 = .ok (.invokevirtual 165, 3) := by decide +kernel
theorem dX11_isOneOf_38 : decode cX11_isOneOf 38 = .ok (.goto 16, 3) := by decide +kernel
theorem dX11_isOneOf_41 : decode cX11_isOneOf 41 = .ok (.aload_n 0, 1) := by decide +kernel
theorem dX11_isOneOf_42 : decode cX11_isOneOf 42 = .ok (.getfield 126, 3) := by decide +kernel
theorem dX11_isOneOf_45 : decode cX11_isOneOf 45 = .ok (.iload_n 1, 1) := by decide +kernel
theorem dX11_isOneOf_46 : decode cX11_isOneOf 46 = .ok (.if_icmp .lt 8, 3) := by decide +kernel
theorem dX11_isOneOf_49 : decode cX11_isOneOf 49 = .ok (.aload_n 0, 1) := by decide +kernel
theorem dX11_isOneOf_50 : decode cX11_isOneOf 50 = .ok (.iconst 3, 1) := by decide +kernel
theorem dX11_isOneOf_51 : decode cX11_isOneOf 51 = .ok (.invokevirtual 165, 3) := by decide +kernel
theorem dX11_isOneOf_54 : decode cX11_isOneOf 54 = .ok (.aload_n 0, 1) := by decide +kernel
theorem dX11_isOneOf_55 : decode cX11_isOneOf 55 = .ok (.invokevirtual 158, 3) := by decide +kernel
theorem dX11_isOneOf_58 : decode cX11_isOneOf 58 = .ok (.ireturn, 1) := by decide +kernel
theorem dX11_puts_0 : decode cX11_puts 0 = .ok (.aload_n 0, 1) := by decide +kernel
theorem dX11_puts_1 : decode cX11_puts 1 = .ok (.getfield 38, 3) := by decide +kernel
theorem dX11_puts_4 : decode cX11_puts 4 = .ok (.aload_n 0, 1) := by decide +kernel
theorem dX11_puts_5 : decode cX11_puts 5 = .ok (.getfield 168, 3) := by decide +kernel
theorem dX11_puts_8 : decode cX11_puts 8 = .ok (.iload_n 1, 1) := by decide +kernel
theorem dX11_puts_9 : decode cX11_puts 9 = .ok (.iastore, 1) := by decide +kernel
theorem dX11_puts_10 : decode cX11_puts 10 = .ok (.aload_n 0, 1) := by decide +kernel
theorem dX11_puts_11 : decode cX11_puts 11 = .ok (.dup, 1) := by decide +kernel
theorem dX11_puts_12 : decode cX11_puts 12 = .ok (.getfield 168, 3) := by decide +kernel
theorem dX11_puts_15 : decode cX11_puts 15 = .ok (.iconst 1, 1) := by decide +kernel
theorem dX11_puts_16 : decode cX11_puts 16 = .ok (.iadd, 1) := by decide +kernel
theorem dX11_puts_17 : decode cX11_puts 17 = .ok (.putfield 168, 3) := by decide +kernel
theorem dX11_puts_20 : decode cX11_puts 20 = .ok (.return_, 1) := by decide +kernel
theorem dX11_isOpen_0 : decode cX11_isOpen 0 = .ok (.iload_n 0, 1) := by decide +kernel
theorem dX11_isOpen_1 : decode cX11_isOpen 1 = .ok (.bipush 14, 2) := by decide +kernel
theorem dX11_isOpen_3 : decode cX11_isOpen 3 = .ok (.if_icmp .lt 7, 3) := by decide +kernel
theorem dX11_isOpen_6 : decode cX11_isOpen 6 = .ok (.iconst 1, 1) := by decide +kernel
theorem dX11_isOpen_7 : decode cX11_isOpen 7 = .ok (.goto 4, 3) := by decide +kernel
theorem dX11_isOpen_10 : decode cX11_isOpen 10 = .ok (.iconst 0, 1) := by decide +kernel
theorem dX11_isOpen_11 : decode cX11_isOpen 11 = .ok (.ireturn, 1) := by decide +kernel
theorem dX11_strength_0 : decode cX11_strength 0 = .ok (.iload_n 0, 1) := by decide +kernel
theorem dX11_strength_1 : decode cX11_strength 1 = .ok (.iconst 5, 1) := by decide +kernel
theorem dX11_strength_2 : decode cX11_strength 2 = .ok (.if_icmp .ne 7, 3) := by decide +kernel
theorem dX11_strength_5 : decode cX11_strength 5 = .ok (.iconst 1, 1) := by decide +kernel
theorem dX11_strength_6 : decode cX11_strength 6 = .ok (.goto 55, 3) := by decide +kernel
theorem dX11_strength_9 : decode cX11_strength 9 = .ok (.iload_n 0, 1) := by decide +kernel
theorem dX11_strength_10 : decode cX11_strength 10 = .ok (.iconst 4, 1) := by decide +kernel
theorem dX11_strength_11 : decode cX11_strength 11 = .ok (.if_icmp .ne 7, 3) := by decide +kernel
theorem dX11_strength_14 : decode cX11_strength 14 = .ok (.iconst 2, 1) := by decide +kernel
theorem dX11_strength_15 : decode cX11_strength 15 = .ok (.goto 46, 3) := by decide +kernel
theorem dX11_strength_18 : decode cX11_strength 18 = .ok (.iload_n 0, 1) := by decide +kernel
theorem dX11_strength_19 : decode cX11_strength 19 = .ok (.iconst 3, 1) := by decide +kernel
theorem dX11_strength_20 : decode cX11_strength 20 = .ok (.if_icmp .ne 7, 3) := by decide +kernel
theorem dX11_strength_23 : decode cX11_strength 23 = .ok (.iconst 3, 1) := by decide +kernel
theorem dX11_strength_24 : decode cX11_strength 24 = .ok (.goto 37, 3) := by decide +kernel
theorem dX11_strength_27 : decode cX11_strength 27 = .ok (.iload_n 0, 1) := by decide +kernel
theorem dX11_strength_28 : decode cX11_strength 28 = .ok (.bipush 6, 2) := by decide +kernel
theorem dX11_strength_30 : decode cX11_strength 30 = .ok (.if_icmp .eq 9, 3) := by decide +kernel
theorem dX11_strength_33 : decode cX11_strength 33 = .ok (.iload_n 0, 1) := by decide +kernel
theorem dX11_strength_34 : decode cX11_strength 34 = .ok (.bipush 7, 2) := by decide +kernel
theorem dX11_strength_36 : decode cX11_strength 36 = .ok (.if_icmp .ne 7, 3) := by decide +kernel
theorem dX11_strength_39 : decode cX11_strength 39 = .ok (.iconst 4, 1) := by decide +kernel
theorem dX11_strength_40 : decode cX11_strength 40 = .ok (.goto 21, 3) := by decide +kernel
theorem dX11_strength_43 : decode cX11_strength 43 = .ok (.iload_n 0, 1) := by decide +kernel
theorem dX11_strength_44 : decode cX11_strength 44 = .ok (.bipush 8, 2) := by decide +kernel
theorem dX11_strength_46 : decode cX11_strength 46 = .ok (.if_icmp .eq 9, 3) := by decide +kernel
theorem dX11_strength_49 : decode cX11_strength 49 = .ok (.iload_n 0, 1) := by decide +kernel
theorem dX11_strength_50 : decode cX11_strength 50 = .ok (.bipush 9, 2) := by decide +kernel
theorem dX11_strength_52 : decode cX11_strength 52 = .ok (.if_icmp .ne 7, 3) := by decide +kernel
theorem dX11_strength_55 : decode cX11_strength 55 = .ok (.iconst 5, 1) := by decide +kernel
theorem dX11_strength_56 : decode cX11_strength 56 = .ok (.goto 5, 3) := by decide +kernel
theorem dX11_strength_59 : decode cX11_strength 59 = .ok (.bipush 6, 2) := by decide +kernel
theorem dX11_strength_61 : decode cX11_strength 61 = .ok (.ireturn, 1) := by decide +kernel
theorem dX11_drops_0 : decode cX11_drops 0 = .ok (.aload_n 0, 1) := by decide +kernel
theorem dX11_drops_1 : decode cX11_drops 1 = .ok (.getfield 171, 3) := by decide +kernel
theorem dX11_drops_4 : decode cX11_drops 4 = .ok (.ifCond .le 64, 3) := by decide +kernel
theorem dX11_drops_7 : decode cX11_drops 7 = .ok (.aload_n 0, 1) := by decide +kernel
theorem dX11_drops_8 : decode cX11_drops 8 = .ok (.getfield 41, 3) := by decide +kernel
theorem dX11_drops_11 : decode cX11_drops 11 = .ok (.aload_n 0, 1) := by decide +kernel
theorem dX11_drops_12 : decode cX11_drops 12 = .ok (.getfield 171, 3) := by decide +kernel
theorem dX11_drops_15 : decode cX11_drops 15 = .ok (.iconst 1, 1) := by decide +kernel
theorem dX11_drops_16 : decode cX11_drops 16 = .ok (.isub, 1) := by decide +kernel
theorem dX11_drops_17 : decode cX11_drops 17 = .ok (.iaload, 1) := by decide +kernel
theorem dX11_drops_18 : decode cX11_drops 18 = .ok (.invokestatic 174, 3) := by decide +kernel
theorem dX11_drops_21 : decode cX11_drops 21 = .ok (.ifCond .ne 47, 3) := by decide +kernel
theorem dX11_drops_24 : decode cX11_drops 24 = .ok (.aload_n 0, 1) := by decide +kernel
theorem dX11_drops_25 : decode cX11_drops 25 = .ok (.getfield 41, 3) := by decide +kernel
theorem dX11_drops_28 : decode cX11_drops 28 = .ok (.aload_n 0, 1) := by decide +kernel
theorem dX11_drops_29 : decode cX11_drops 29 = .ok (.getfield 171, 3) := by decide +kernel
theorem dX11_drops_32 : decode cX11_drops 32 = .ok (.iconst 1, 1) := by decide +kernel
theorem dX11_drops_33 : decode cX11_drops 33 = .ok (.isub, 1) := by decide +kernel
theorem dX11_drops_34 : decode cX11_drops 34 = .ok (.iaload, 1) := by decide +kernel
theorem dX11_drops_35 : decode cX11_drops 35 = .ok (.invokestatic 177, 3) := by decide +kernel
theorem dX11_drops_38 : decode cX11_drops 38 = .ok (.iload_n 1, 1) := by decide +kernel
theorem dX11_drops_39 : decode cX11_drops 39 = .ok (.if_icmp .lt 29, 3) := by decide +kernel
theorem dX11_drops_42 : decode cX11_drops 42 = .ok (.aload_n 0, 1) := by decide +kernel
theorem dX11_drops_43 : decode cX11_drops 43 = .ok (.dup, 1) := by decide +kernel
theorem dX11_drops_44 : decode cX11_drops 44 = .ok (.getfield 171, 3) := by decide +kernel
theorem dX11_drops_47 : decode cX11_drops 47 = .ok (.iconst 1, 1) := by decide +kernel
theorem dX11_drops_48 : decode cX11_drops 48 = .ok (.isub, 1) := by decide +kernel
theorem dX11_drops_49 : decode cX11_drops 49 = .ok (.putfield 171, 3) := by decide +kernel
theorem dX11_drops_52 : decode cX11_drops 52 = .ok (.aload_n 0, 1) := by decide +kernel
theorem dX11_drops_53 : decode cX11_drops 53 = .ok (.aload_n 0, 1) := by decide +kernel
theorem dX11_drops_54 : decode cX11_drops 54 = .ok (.getfield 41, 3) := by decide +kernel
theorem dX11_drops_57 : decode cX11_drops 57 = .ok (.aload_n 0, 1) := by decide +kernel
theorem dX11_drops_58 : decode cX11_drops 58 = .ok (.getfield 171, 3) := by decide +kernel
theorem dX11_drops_61 : decode cX11_drops 61 = .ok (.iaload, 1) := by decide +kernel
theorem dX11_drops_62 : decode cX11_drops 62 = .ok (.invokevirtual 180, 3) := by decide +kernel
theorem dX11_drops_65 : decode cX11_drops 65 = .ok (.goto (-65), 3) := by decide +kernel
theorem dX11_drops_68 : decode cX11_drops 68 = .ok (.return_, 1) := by decide +kernel
theorem dX11_waitsFor_0 : decode cX11_waitsFor 0 = .ok (.aload_n 0, 1) := by decide +kernel
theorem dX11_waitsFor_1 : decode cX11_waitsFor 1 = .ok (.getfield 41, 3) := by decide +kernel
theorem dX11_waitsFor_4 : decode cX11_waitsFor 4 = .ok (.aload_n 0, 1) := by decide +kernel
theorem dX11_waitsFor_5 : decode cX11_waitsFor 5 = .ok (.getfield 171, 3) := by decide +kernel
theorem dX11_waitsFor_8 : decode cX11_waitsFor 8 = .ok (.iload_n 1, 1) := by decide +kernel
theorem dX11_waitsFor_9 : decode cX11_waitsFor 9 = .ok (.iastore, 1) := by decide +kernel
theorem dX11_waitsFor_10 : decode cX11_waitsFor 10 = .ok (.aload_n 0, 1) := by decide +kernel
theorem dX11_waitsFor_11 : decode cX11_waitsFor 11 = .ok (.dup, 1) := by decide +kernel
theorem dX11_waitsFor_12 : decode cX11_waitsFor 12 = .ok (.getfield 171, 3) := by decide +kernel
theorem dX11_waitsFor_15 : decode cX11_waitsFor 15 = .ok (.iconst 1, 1) := by decide +kernel
theorem dX11_waitsFor_16 : decode cX11_waitsFor 16 = .ok (.iadd, 1) := by decide +kernel
theorem dX11_waitsFor_17 : decode cX11_waitsFor 17 = .ok (.putfield 171, 3) := by decide +kernel
theorem dX11_waitsFor_20 : decode cX11_waitsFor 20 = .ok (.return_, 1) := by decide +kernel
theorem dX11_part_0 : decode cX11_part 0 = .ok (.aload_n 0, 1) := by decide +kernel
theorem dX11_part_1 : decode cX11_part 1 = .ok (.invokevirtual 158, 3) := by decide +kernel
theorem dX11_part_4 : decode cX11_part 4 = .ok (.ifCond .ne 4, 3) := by decide +kernel
theorem dX11_part_7 : decode cX11_part 7 = .ok (.return_, 1) := by decide +kernel
theorem dX11_part_8 : decode cX11_part 8 = .ok (.aload_n 0, 1) := by decide +kernel
theorem dX11_part_9 : decode cX11_part 9 = .ok (.getfield 132, 3) := by decide +kernel
theorem dX11_part_12 : decode cX11_part 12 = .ok (.iconst 2, 1) := by decide +kernel
theorem dX11_part_13 : decode cX11_part 13 = .ok (.if_icmp .ne 32, 3) := by decide +kernel
theorem dX11_part_16 : decode cX11_part 16 = .ok (.aload_n 0, 1) := by decide +kernel
theorem dX11_part_17 : decode cX11_part 17 = .ok (.getfield 142, 3) := by decide +kernel
theorem dX11_part_20 : decode cX11_part 20 = .ok (.iconst 4, 1) := by decide +kernel
theorem dX11_part_21 : decode cX11_part 21 = .ok (.if_icmp .le 8, 3) := by decide +kernel
theorem dX11_part_24 : decode cX11_part 24 = .ok (.aload_n 0, 1) := by decide +kernel
theorem dX11_part_25 : decode cX11_part 25 = .ok (.iconst 2, 1) := by decide +kernel
theorem dX11_part_26 : decode cX11_part 26 = .ok (.invokevirtual 165, 3) := by decide +kernel
theorem dX11_part_29 : decode cX11_part 29 = .ok (.aload_n 0, 1) := by decide +kernel
theorem dX11_part_30 : decode cX11_part 30 = .ok (.iconst 1, 1) := by decide +kernel
theorem dX11_part_31 : decode cX11_part 31 = .ok (.invokevirtual 180, 3) := by decide +kernel
theorem dX11_part_34 : decode cX11_part 34 = .ok (.aload_n 0, 1) := by decide +kernel
theorem dX11_part_35 : decode cX11_part 35 = .ok (.aload_n 0, 1) := by decide +kernel
theorem dX11_part_36 : decode cX11_part 36 = .ok (.getfield 126, 3) := by decide +kernel
theorem dX11_part_39 : decode cX11_part 39 = .ok (.invokevirtual 180, 3) := by decide +kernel
theorem dX11_part_42 : decode cX11_part 42 = .ok (.goto 55, 3) := by decide +kernel
theorem dX11_part_45 : decode cX11_part 45 = .ok (.aload_n 0, 1) := by decide +kernel
theorem dX11_part_46 : decode cX11_part 46 = .ok (.getfield 132, 3) := by decide +kernel
theorem dX11_part_49 : decode cX11_part 49 = .ok (.iconst 1, 1) := by decide +kernel
theorem dX11_part_50 : decode cX11_part 50 = .ok (.if_icmp .ne 42, 3) := by decide +kernel
theorem dX11_part_53 : decode cX11_part 53 = .ok (.aload_n 0, 1) := by decide +kernel
theorem dX11_part_54 : decode cX11_part 54 = .ok (.invokevirtual 183, 3) := by decide +kernel
theorem dX11_part_57 : decode cX11_part 57 = .ok (.istore_n 1, 1) := by decide +kernel
theorem dX11_part_58 : decode cX11_part 58 = .ok (.iload_n 1, 1) := by decide +kernel
theorem dX11_part_59 : decode cX11_part 59 = .ok (.aload_n 0, 1) := by decide +kernel
theorem dX11_part_60 : decode cX11_part 60 = .ok (.getfield 187, 3) := by decide +kernel
theorem dX11_part_63 : decode cX11_part 63 = .ok (.if_icmp .lt 11, 3) := by decide +kernel
theorem dX11_part_66 : decode cX11_part 66 = .ok (.iload_n 1, 1) := by decide +kernel
theorem dX11_part_67 : decode cX11_part 67 = .ok (.aload_n 0, 1) := by decide +kernel
theorem dX11_part_68 : decode cX11_part 68 = .ok (.getfield 190, 3) := by decide +kernel
theorem dX11_part_71 : decode cX11_part 71 = .ok (.if_icmp .le 8, 3) := by decide +kernel
theorem dX11_part_74 : decode cX11_part 74 = .ok (.aload_n 0, 1) := by decide +kernel
theorem dX11_part_75 : decode cX11_part 75 = .ok (.iconst 3, 1) := by decide +kernel
theorem dX11_part_76 : decode cX11_part 76 = .ok (.invokevirtual 165, 3) := by decide +kernel
theorem dX11_part_79 : decode cX11_part 79 = .ok (.aload_n 0, 1) := by decide +kernel
theorem dX11_part_80 : decode cX11_part 80 = .ok (.iconst 2, 1) := by decide +kernel
theorem dX11_part_81 : decode cX11_part 81 = .ok (.invokevirtual 180, 3) := by decide +kernel
theorem dX11_part_84 : decode cX11_part 84 = .ok (.aload_n 0, 1) := by decide +kernel
theorem dX11_part_85 : decode cX11_part 85 = .ok (.iload_n 1, 1) := by decide +kernel
theorem dX11_part_86 : decode cX11_part 86 = .ok (.invokevirtual 180, 3) := by decide +kernel
theorem dX11_part_89 : decode cX11_part 89 = .ok (.goto 8, 3) := by decide +kernel
theorem dX11_part_92 : decode cX11_part 92 = .ok (.aload_n 0, 1) := by decide +kernel
theorem dX11_part_93 : decode cX11_part 93 = .ok (.iconst 1, 1) := by decide +kernel
theorem dX11_part_94 : decode cX11_part 94 = .ok (.invokevirtual 165, 3) := by decide +kernel
theorem dX11_part_97 : decode cX11_part 97 = .ok (.aload_n 0, 1) := by decide +kernel
theorem dX11_part_98 : decode cX11_part 98 = .ok (.invokevirtual 158, 3) := by decide +kernel
theorem dX11_part_101 : decode cX11_part 101 = .ok (.ifCond .eq 7, 3) := by decide +kernel
theorem dX11_part_104 : decode cX11_part 104 = .ok (.aload_n 0, 1) := by decide +kernel
theorem dX11_part_105 : decode cX11_part 105 = .ok (.invokevirtual 162, 3) := by decide +kernel
theorem dX11_part_108 : decode cX11_part 108 = .ok (.return_, 1) := by decide +kernel
theorem dX11_deeper_0 : decode cX11_deeper 0 = .ok (.aload_n 0, 1) := by decide +kernel
theorem dX11_deeper_1 : decode cX11_deeper 1 = .ok (.getfield 193, 3) := by decide +kernel
theorem dX11_deeper_4 : decode cX11_deeper 4 = .ok (.bipush 6, 2) := by decide +kernel
theorem dX11_deeper_6 : decode cX11_deeper 6 = .ok (.if_icmp .ge 24, 3) := by decide +kernel
theorem dX11_deeper_9 : decode cX11_deeper 9 = .ok (.aload_n 0, 1) := by decide +kernel
theorem dX11_deeper_10 : decode cX11_deeper 10 = .ok (.dup, 1) := by decide +kernel
theorem dX11_deeper_11 : decode cX11_deeper 11 = .ok (.getfield 193, 3) := by decide +kernel
theorem dX11_deeper_14 : decode cX11_deeper 14 = .ok (.iconst 1, 1) := by decide +kernel
theorem dX11_deeper_15 : decode cX11_deeper 15 = .ok (.iadd, 1) := by decide +kernel
theorem dX11_deeper_16 : decode cX11_deeper 16 = .ok (.putfield 193, 3) := by decide +kernel
theorem dX11_deeper_19 : decode cX11_deeper 19 = .ok (.aload_n 0, 1) := by decide +kernel
theorem dX11_deeper_20 : decode cX11_deeper 20 = .ok (.getfield 44, 3) := by decide +kernel
theorem dX11_deeper_23 : decode cX11_deeper 23 = .ok (.aload_n 0, 1) := by decide +kernel
theorem dX11_deeper_24 : decode cX11_deeper 24 = .ok (.getfield 193, 3) := by decide +kernel
theorem dX11_deeper_27 : decode cX11_deeper 27 = .ok (.iconst 0, 1) := by decide +kernel
theorem dX11_deeper_28 : decode cX11_deeper 28 = .ok (.bastore, 1) := by decide +kernel
theorem dX11_deeper_29 : decode cX11_deeper 29 = .ok (.return_, 1) := by decide +kernel
theorem dX11_deeper_30 : decode cX11_deeper 30 = .ok (.aload_n 0, 1) := by decide +kernel
theorem dX11_deeper_31 : decode cX11_deeper 31 = .ok (.aload_n 0, 1) := by decide +kernel
theorem dX11_deeper_32 : decode cX11_deeper 32 = .ok (.getfield 132, 3) := by decide +kernel
theorem dX11_deeper_35 : decode cX11_deeper 35 = .ok (.iconst 2, 1) := by decide +kernel
theorem dX11_deeper_36 : decode cX11_deeper 36 = .ok (.if_icmp .eq 20, 3) := by decide +kernel
theorem dX11_deeper_39 : decode cX11_deeper 39 = .ok (.aload_n 0, 1) := by decide +kernel
theorem dX11_deeper_40 : decode cX11_deeper 40 = .ok (.getfield 132, 3) := by decide +kernel
theorem dX11_deeper_43 : decode cX11_deeper 43 = .ok (.iconst 1, 1) := by decide +kernel
theorem dX11_deeper_44 : decode cX11_deeper 44 = .ok (.if_icmp .eq 12, 3) := by decide +kernel
theorem dX11_deeper_47 : decode cX11_deeper 47 = .ok (.aload_n 0, 1) := by decide +kernel
theorem dX11_deeper_48 : decode cX11_deeper 48 = .ok (.bipush 40, 2) := by decide +kernel
theorem dX11_deeper_50 : decode cX11_deeper 50 = .ok (.invokevirtual 196, 3) := by decide +kernel
theorem dX11_deeper_53 : decode cX11_deeper 53 = .ok (.ifCond .eq 7, 3) := by decide +kernel
theorem dX11_deeper_56 : decode cX11_deeper 56 = .ok (.iconst 2, 1) := by decide +kernel
theorem dX11_deeper_57 : decode cX11_deeper 57 = .ok (.goto 4, 3) := by decide +kernel
theorem dX11_deeper_60 : decode cX11_deeper 60 = .ok (.iconst 1, 1) := by decide +kernel
theorem dX11_deeper_61 : decode cX11_deeper 61 = .ok (.invokevirtual 165, 3) := by decide +kernel
theorem dX11_deeper_64 : decode cX11_deeper 64 = .ok (.return_, 1) := by decide +kernel
theorem dX11_operand_0 : decode cX11_operand 0 = .ok (.iload_n 1, 1) := by decide +kernel
theorem dX11_operand_1 : decode cX11_operand 1 = .ok (.istore_n 2, 1) := by decide +kernel
theorem dX11_operand_2 : decode cX11_operand 2 = .ok (.iconst 1, 1) := by decide +kernel
theorem dX11_operand_3 : decode cX11_operand 3 = .ok (.istore_n 3, 1) := by decide +kernel
theorem dX11_operand_4 : decode cX11_operand 4 = .ok (.iload_n 3, 1) := by decide +kernel
theorem dX11_operand_5 : decode cX11_operand 5 = .ok (.ifCond .eq 115, 3) := by decide +kernel
theorem dX11_operand_8 : decode cX11_operand 8 = .ok (.aload_n 0, 1) := by decide +kernel
theorem dX11_operand_9 : decode cX11_operand 9 = .ok (.invokevirtual 158, 3) := by decide +kernel
theorem dX11_operand_12 : decode cX11_operand 12 = .ok (.ifCond .eq 108, 3) := by decide +kernel
theorem dX11_operand_15 : decode cX11_operand 15 = .ok (.iconst 0, 1) := by decide +kernel
theorem dX11_operand_16 : decode cX11_operand 16 = .ok (.istore 4, 2) := by decide +kernel
theorem dX11_operand_18 : decode cX11_operand 18 = .ok (.aload_n 0, 1) := by decide +kernel
theorem dX11_operand_19 : decode cX11_operand 19 = .ok (.invokevirtual 158, 3) := by decide +kernel
theorem dX11_operand_22 : decode cX11_operand 22 = .ok (.ifCond .eq 53, 3) := by decide +kernel
theorem dX11_operand_25 : decode cX11_operand 25 = .ok (.iload_n 2, 1) := by decide +kernel
theorem dX11_operand_26 : decode cX11_operand 26 = .ok (.ifCond .eq 49, 3) := by decide +kernel
theorem dX11_operand_29 : decode cX11_operand 29 = .ok (.aload_n 0, 1) := by decide +kernel
theorem dX11_operand_30 : decode cX11_operand 30 = .ok (.invokevirtual 183, 3) := by decide +kernel
theorem dX11_operand_33 : decode cX11_operand 33 = .ok (.bipush 16, 2) := by decide +kernel
theorem dX11_operand_35 : decode cX11_operand 35 = .ok (.if_icmp .ne 40, 3) := by decide +kernel
theorem dX11_operand_38 : decode cX11_operand 38 = .ok (.iload 4, 2) := by decide +kernel
theorem dX11_operand_40 : decode cX11_operand 40 = .ok (.bipush 6, 2) := by decide +kernel
theorem dX11_operand_42 : decode cX11_operand 42 = .ok (.if_icmp .ne 8, 3) := by decide +kernel
theorem dX11_operand_45 : decode cX11_operand 45 = .ok (.aload_n 0, 1) := by decide +kernel
theorem dX11_operand_46 : decode cX11_operand 46 = .ok (.iconst 2, 1) := by decide +kernel
theorem dX11_operand_47 : decode cX11_operand 47 = .ok (.invokevirtual 165, 3) := by decide +kernel
theorem dX11_operand_50 : decode cX11_operand 50 = .ok (.iinc 4 1, 3) := by decide +kernel
theorem dX11_operand_53 : decode cX11_operand 53 = .ok (.aload_n 0, 1) := by decide +kernel
theorem dX11_operand_54 : decode cX11_operand 54 = .ok (.invokevirtual 158, 3) := by decide +kernel
theorem dX11_operand_57 : decode cX11_operand 57 = .ok (.ifCond .ne 6, 3) := by decide +kernel
theorem dX11_operand_60 : decode cX11_operand 60 = .ok (.goto (-42), 3) := by decide +kernel
theorem dX11_operand_63 : decode cX11_operand 63 = .ok (.aload_n 0, 1) := by decide +kernel
theorem dX11_operand_64 : decode cX11_operand 64 = .ok (.iconst 3, 1) := by decide +kernel
theorem dX11_operand_65 : decode cX11_operand 65 = .ok (.invokevirtual 199, 3) := by decide +kernel
theorem dX11_operand_68 : decode cX11_operand 68 = .ok (.aload_n 0, 1) := by decide +kernel
theorem dX11_operand_69 : decode cX11_operand 69 = .ok (.invokevirtual 162, 3) := by decide +kernel
theorem dX11_operand_72 : decode cX11_operand 72 = .ok (.goto (-54), 3) := by decide +kernel
theorem dX11_operand_75 : decode cX11_operand 75 = .ok (.aload_n 0, 1) := by decide +kernel
theorem dX11_operand_76 : decode cX11_operand 76 = .ok (.invokevirtual 158, 3) := by decide +kernel
theorem dX11_operand_79 : decode cX11_operand 79 = .ok (.ifCond .eq 16, 3) := by decide +kernel
theorem dX11_operand_82 : decode cX11_operand 82 = .ok (.aload_n 0, 1) := by decide +kernel
theorem dX11_operand_83 : decode cX11_operand 83 = .ok (.bipush 40, 2) := by decide +kernel
theorem dX11_operand_85 : decode cX11_operand 85 = .ok (.invokevirtual 196, 3) := by decide +kernel
theorem dX11_operand_88 : decode cX11_operand 88 = .ok (.ifCond .eq 7, 3) := by decide +kernel
theorem dX11_operand_91 : decode cX11_operand 91 = .ok (.iconst 1, 1) := by decide +kernel
theorem dX11_operand_92 : decode cX11_operand 92 = .ok (.goto 4, 3) := by decide +kernel
theorem dX11_operand_95 : decode cX11_operand 95 = .ok (.iconst 0, 1) := by decide +kernel
theorem dX11_operand_96 : decode cX11_operand 96 = .ok (.istore_n 3, 1) := by decide +kernel
theorem dX11_operand_97 : decode cX11_operand 97 = .ok (.iload_n 3, 1) := by decide +kernel
theorem dX11_operand_98 : decode cX11_operand 98 = .ok (.ifCond .eq 19, 3) := by decide +kernel
theorem dX11_operand_101 : decode cX11_operand 101 = .ok (.aload_n 0, 1) := by decide +kernel
theorem dX11_operand_102 : decode cX11_operand 102 = .ok (.bipush 14, 2) := by decide +kernel
theorem dX11_operand_104 : decode cX11_operand 104 = .ok (.invokevirtual 199, 3) := by decide +kernel
theorem dX11_operand_107 : decode cX11_operand 107 = .ok (.aload_n 0, 1) := by decide +kernel
theorem dX11_operand_108 : decode cX11_operand 108 = .ok (.invokevirtual 162, 3) := by decide +kernel
theorem dX11_operand_111 : decode cX11_operand 111 = .ok (.aload_n 0, 1) := by decide +kernel
theorem dX11_operand_112 : decode cX11_operand 112 = .ok (.invokevirtual 202, 3) := by decide +kernel
theorem dX11_operand_115 : decode cX11_operand 115 = .ok (.iconst 1, 1) := by decide +kernel
theorem dX11_operand_116 : decode cX11_operand 116 = .ok (.istore_n 2, 1) := by decide +kernel
theorem dX11_operand_117 : decode cX11_operand 117 = .ok (.goto (-113), 3) := by decide +kernel
theorem dX11_operand_120 : decode cX11_operand 120 = .ok (.aload_n 0, 1) := by decide +kernel
theorem dX11_operand_121 : decode cX11_operand 121 = .ok (.invokevirtual 205, 3) := by decide +kernel
theorem dX11_operand_124 : decode cX11_operand 124 = .ok (.return_, 1) := by decide +kernel
theorem dX11_isOpened_0 : decode cX11_isOpened 0 = .ok (.aload_n 0, 1) := by decide +kernel
theorem dX11_isOpened_1 : decode cX11_isOpened 1 = .ok (.getfield 171, 3) := by decide +kernel
theorem dX11_isOpened_4 : decode cX11_isOpened 4 = .ok (.iconst 1, 1) := by decide +kernel
theorem dX11_isOpened_5 : decode cX11_isOpened 5 = .ok (.isub, 1) := by decide +kernel
theorem dX11_isOpened_6 : decode cX11_isOpened 6 = .ok (.istore_n 1, 1) := by decide +kernel
theorem dX11_isOpened_7 : decode cX11_isOpened 7 = .ok (.iload_n 1, 1) := by decide +kernel
theorem dX11_isOpened_8 : decode cX11_isOpened 8 = .ok (.ifCond .lt 21, 3) := by decide +kernel
theorem dX11_isOpened_11 : decode cX11_isOpened 11 = .ok (.aload_n 0, 1) := by decide +kernel
theorem dX11_isOpened_12 : decode cX11_isOpened 12 = .ok (.getfield 41, 3) := by decide +kernel
theorem dX11_isOpened_15 : decode cX11_isOpened 15 = .ok (.iload_n 1, 1) := by decide +kernel
theorem dX11_isOpened_16 : decode cX11_isOpened 16 = .ok (.iaload, 1) := by decide +kernel
theorem dX11_isOpened_17 : decode cX11_isOpened 17 = .ok (.invokestatic 174, 3) := by decide +kernel
theorem dX11_isOpened_20 : decode cX11_isOpened 20 = .ok (.ifCond .ne 9, 3) := by decide +kernel
theorem dX11_isOpened_23 : decode cX11_isOpened 23 = .ok (.iinc 1 (-1), 3) := by decide +kernel
theorem dX11_isOpened_26 : decode cX11_isOpened 26 = .ok (.goto (-19), 3) := by decide +kernel
theorem dX11_isOpened_29 : decode cX11_isOpened 29 = .ok (.iload_n 1, 1) := by decide +kernel
theorem dX11_isOpened_30 : decode cX11_isOpened 30 = .ok (.ifCond .lt 7, 3) := by decide +kernel
theorem dX11_isOpened_33 : decode cX11_isOpened 33 = .ok (.iconst 1, 1) := by decide +kernel
theorem dX11_isOpened_34 : decode cX11_isOpened 34 = .ok (.goto 4, 3) := by decide +kernel
theorem dX11_isOpened_37 : decode cX11_isOpened 37 = .ok (.iconst 0, 1) := by decide +kernel
theorem dX11_isOpened_38 : decode cX11_isOpened 38 = .ok (.ireturn, 1) := by decide +kernel
theorem dX11_closes_0 : decode cX11_closes 0 = .ok (.aload_n 0, 1) := by decide +kernel
theorem dX11_closes_1 : decode cX11_closes 1 = .ok (.iconst 0, 1) := by decide +kernel
theorem dX11_closes_2 : decode cX11_closes 2 = .ok (.invokevirtual 208, 3) := by decide +kernel
theorem dX11_closes_5 : decode cX11_closes 5 = .ok (.aload_n 0, 1) := by decide +kernel
theorem dX11_closes_6 : decode cX11_closes 6 = .ok (.dup, 1) := by decide +kernel
theorem dX11_closes_7 : decode cX11_closes 7 = .ok (.getfield 171, 3) := by decide +kernel
theorem dX11_closes_10 : decode cX11_closes 10 = .ok (.iconst 1, 1) := by decide +kernel
theorem dX11_closes_11 : decode cX11_closes 11 = .ok (.isub, 1) := by decide +kernel
theorem dX11_closes_12 : decode cX11_closes 12 = .ok (.putfield 171, 3) := by decide +kernel
theorem dX11_closes_15 : decode cX11_closes 15 = .ok (.aload_n 0, 1) := by decide +kernel
theorem dX11_closes_16 : decode cX11_closes 16 = .ok (.dup, 1) := by decide +kernel
theorem dX11_closes_17 : decode cX11_closes 17 = .ok (.getfield 193, 3) := by decide +kernel
theorem dX11_closes_20 : decode cX11_closes 20 = .ok (.iconst 1, 1) := by decide +kernel
theorem dX11_closes_21 : decode cX11_closes 21 = .ok (.isub, 1) := by decide +kernel
theorem dX11_closes_22 : decode cX11_closes 22 = .ok (.putfield 193, 3) := by decide +kernel
theorem dX11_closes_25 : decode cX11_closes 25 = .ok (.aload_n 0, 1) := by decide +kernel
theorem dX11_closes_26 : decode cX11_closes 26 = .ok (.invokevirtual 162, 3) := by decide +kernel
theorem dX11_closes_29 : decode cX11_closes 29 = .ok (.return_, 1) := by decide +kernel
theorem dX11_expression_0 : decode cX11_expression 0 = .ok (.aload_n 0, 1) := by decide +kernel
theorem dX11_expression_1 : decode cX11_expression 1 = .ok (.invokevirtual 158, 3) := by decide +kernel
theorem dX11_expression_4 : decode cX11_expression 4 = .ok (.ifCond .ne 4, 3) := by decide +kernel
theorem dX11_expression_7 : decode cX11_expression 7 = .ok (.return_, 1) := by decide +kernel
theorem dX11_expression_8 : decode cX11_expression 8 = .ok (.aload_n 0, 1) := by decide +kernel
theorem dX11_expression_9 : decode cX11_expression 9 = .ok (.iload_n 1, 1) := by decide +kernel
theorem dX11_expression_10 : decode cX11_expression 10 = .ok (.putfield 187, 3) := by decide +kernel
theorem dX11_expression_13 : decode cX11_expression 13 = .ok (.aload_n 0, 1) := by decide +kernel
theorem dX11_expression_14 : decode cX11_expression 14 = .ok (.iload_n 2, 1) := by decide +kernel
theorem dX11_expression_15 : decode cX11_expression 15 = .ok (.putfield 190, 3) := by decide +kernel
theorem dX11_expression_18 : decode cX11_expression 18 = .ok (.aload_n 0, 1) := by decide +kernel
theorem dX11_expression_19 : decode cX11_expression 19 = .ok (.iconst 0, 1) := by decide +kernel
theorem dX11_expression_20 : decode cX11_expression 20 = .ok (.putfield 171, 3) := by decide +kernel
theorem dX11_expression_23 : decode cX11_expression 23 = .ok (.aload_n 0, 1) := by decide +kernel
theorem dX11_expression_24 : decode cX11_expression 24 = .ok (.iconst 0, 1) := by decide +kernel
theorem dX11_expression_25 : decode cX11_expression 25 = .ok (.putfield 193, 3) := by decide +kernel
theorem dX11_expression_28 : decode cX11_expression 28 = .ok (.aload_n 0, 1) := by decide +kernel
theorem dX11_expression_29 : decode cX11_expression 29 = .ok (.invokevirtual 202, 3) := by decide +kernel
theorem dX11_expression_32 : decode cX11_expression 32 = .ok (.aload_n 0, 1) := by decide +kernel
theorem dX11_expression_33 : decode cX11_expression 33 = .ok (.iconst 1, 1) := by decide +kernel
theorem dX11_expression_34 : decode cX11_expression 34 = .ok (.invokevirtual 211, 3) := by decide +kernel
theorem dX11_expression_37 : decode cX11_expression 37 = .ok (.iconst 1, 1) := by decide +kernel
theorem dX11_expression_38 : decode cX11_expression 38 = .ok (.istore_n 3, 1) := by decide +kernel
theorem dX11_expression_39 : decode cX11_expression 39 = .ok (.iload_n 3, 1) := by decide +kernel
theorem dX11_expression_40 : decode cX11_expression 40 = .ok (.ifCond .eq 300, 3) := by decide +kernel
theorem dX11_expression_43 : decode cX11_expression 43 = .ok (.aload_n 0, 1) := by decide +kernel
theorem dX11_expression_44 : decode cX11_expression 44 = .ok (.invokevirtual 158, 3) := by decide +kernel
theorem dX11_expression_47 : decode cX11_expression 47 = .ok (.ifCond .eq 293, 3) := by decide +kernel
theorem dX11_expression_50 : decode cX11_expression 50 = .ok (.aload_n 0, 1) := by decide +kernel
theorem dX11_expression_51 : decode cX11_expression 51 = .ok (.invokevirtual 183, 3) := by decide +kernel
theorem dX11_expression_54 : decode cX11_expression 54 = .ok (.istore 4, 2) := by decide +kernel
theorem dX11_expression_56 : decode cX11_expression 56 = .ok (.iload 4, 2) := by decide +kernel
theorem dX11_expression_58 : decode cX11_expression 58 = .ok (.bipush 14, 2) := by decide +kernel
theorem dX11_expression_60 : decode cX11_expression 60 = .ok (.if_icmp .eq 10, 3) := by decide +kernel
theorem dX11_expression_63 : decode cX11_expression 63 = .ok (.iload 4, 2) := by decide +kernel
theorem dX11_expression_65 : decode cX11_expression 65 = .ok (.bipush 15, 2) := by decide +kernel
theorem dX11_expression_67 : decode cX11_expression 67 = .ok (.if_icmp .ne 57, 3) := by decide +kernel
theorem dX11_expression_70 : decode cX11_expression 70 = .ok (.aload_n 0, 1) := by decide +kernel
theorem dX11_expression_71 : decode cX11_expression 71 = .ok (.iload 4, 2) := by decide +kernel
theorem dX11_expression_73 : decode cX11_expression 73 = .ok (.bipush 14, 2) := by decide +kernel
theorem dX11_expression_75 : decode cX11_expression 75 = .ok (.if_icmp .ne 7, 3) := by decide +kernel
theorem dX11_expression_78 : decode cX11_expression 78 = .ok (.iconst 2, 1) := by decide +kernel
theorem dX11_expression_79 : decode cX11_expression 79 = .ok (.goto 4, 3) := by decide +kernel
theorem dX11_expression_82 : decode cX11_expression 82 = .ok (.iconst 1, 1) := by decide +kernel
theorem dX11_expression_83 : decode cX11_expression 83 = .ok (.invokevirtual 208, 3) := by decide +kernel
theorem dX11_expression_86 : decode cX11_expression 86 = .ok (.aload_n 0, 1) := by decide +kernel
theorem dX11_expression_87 : decode cX11_expression 87 = .ok (.iload 4, 2) := by decide +kernel
theorem dX11_expression_89 : decode cX11_expression 89 = .ok (.bipush 14, 2) := by decide +kernel
theorem dX11_expression_91 : decode cX11_expression 91 = .ok (.if_icmp .ne 7, 3) := by decide +kernel
theorem dX11_expression_94 : decode cX11_expression 94 = .ok (.iconst 4, 1) := by decide +kernel
theorem dX11_expression_95 : decode cX11_expression 95 = .ok (.goto 4, 3) := by decide +kernel
theorem dX11_expression_98 : decode cX11_expression 98 = .ok (.iconst 5, 1) := by decide +kernel
theorem dX11_expression_99 : decode cX11_expression 99 = .ok (.invokevirtual 199, 3) := by decide +kernel
theorem dX11_expression_102 : decode cX11_expression 102 = .ok (.aload_n 0, 1) := by decide +kernel
theorem dX11_expression_103 : decode cX11_expression 103 = .ok (.getfield 44, 3) := by decide +kernel
theorem dX11_expression_106 : decode cX11_expression 106 = .ok (.aload_n 0, 1) := by decide +kernel
theorem dX11_expression_107 : decode cX11_expression 107 = .ok (.getfield 193, 3) := by decide +kernel
theorem dX11_expression_110 : decode cX11_expression 110 = .ok (.iconst 0, 1) := by decide +kernel
theorem dX11_expression_111 : decode cX11_expression 111 = .ok (.bastore, 1) := by decide +kernel
theorem dX11_expression_112 : decode cX11_expression 112 = .ok (.aload_n 0, 1) := by decide +kernel
theorem dX11_expression_113 : decode cX11_expression 113 = .ok (.invokevirtual 162, 3) := by decide +kernel
theorem dX11_expression_116 : decode cX11_expression 116 = .ok (.aload_n 0, 1) := by decide +kernel
theorem dX11_expression_117 : decode cX11_expression 117 = .ok (.iconst 1, 1) := by decide +kernel
theorem dX11_expression_118 : decode cX11_expression 118 = .ok (.invokevirtual 211, 3) := by decide +kernel
theorem dX11_expression_121 : decode cX11_expression 121 = .ok (.goto 216, 3) := by decide +kernel
theorem dX11_expression_124 : decode cX11_expression 124 = .ok (.aload_n 0, 1) := by decide +kernel
theorem dX11_expression_125 : decode cX11_expression 125 = .ok (.bipush 60, 2) := by decide +kernel
theorem dX11_expression_127 : decode cX11_expression 127 = .ok (.invokevirtual 196, 3) := by decide +kernel
theorem dX11_expression_130 : decode cX11_expression 130 = .ok (.ifCond .ne 12, 3) := by decide +kernel
theorem dX11_expression_133 : decode cX11_expression 133 = .ok (.aload_n 0, 1) := by decide +kernel
theorem dX11_expression_134 : decode cX11_expression 134 = .ok (.bipush 61, 2) := by decide +kernel
theorem dX11_expression_136 : decode cX11_expression 136 = .ok (.invokevirtual 196, 3) := by decide +kernel
theorem dX11_expression_139 : decode cX11_expression 139 = .ok (.ifCond .eq 62, 3) := by decide +kernel
theorem dX11_expression_142 : decode cX11_expression 142 = .ok (.aload_n 0, 1) := by decide +kernel
theorem dX11_expression_143 : decode cX11_expression 143 = .ok (.getfield 44, 3) := by decide +kernel
theorem dX11_expression_146 : decode cX11_expression 146 = .ok (.aload_n 0, 1) := by decide +kernel
theorem dX11_expression_147 : decode cX11_expression 147 = .ok (.getfield 193, 3) := by decide +kernel
theorem dX11_expression_150 : decode cX11_expression 150 = .ok (.baload, 1) := by decide +kernel
theorem dX11_expression_151 : decode cX11_expression 151 = .ok (.ifCond .ne 50, 3) := by decide +kernel
theorem dX11_expression_154 : decode cX11_expression 154 = .ok (.aload_n 0, 1) := by decide +kernel
theorem dX11_expression_155 : decode cX11_expression 155 = .ok (.iconst 4, 1) := by decide +kernel
theorem dX11_expression_156 : decode cX11_expression 156 = .ok (.invokevirtual 208, 3) := by decide +kernel
theorem dX11_expression_159 : decode cX11_expression 159 = .ok (.aload_n 0, 1) := by decide +kernel
theorem dX11_expression_160 : decode cX11_expression 160 = .ok (.aload_n 0, 1) := by decide +kernel
theorem dX11_expression_161 : decode cX11_expression 161 = .ok (.bipush 60, 2) := by decide +kernel
theorem dX11_expression_163 : decode cX11_expression 163 = .ok (.invokevirtual 196, 3) := by decide +kernel
theorem dX11_expression_166 : decode cX11_expression 166 = .ok (.ifCond .eq 8, 3) := by decide +kernel
theorem dX11_expression_169 : decode cX11_expression 169 = .ok (.bipush 6, 2) := by decide +kernel
theorem dX11_expression_171 : decode cX11_expression 171 = .ok (.goto 5, 3) := by decide +kernel
theorem dX11_expression_174 : decode cX11_expression 174 = .ok (.bipush 7, 2) := by decide +kernel
theorem dX11_expression_176 : decode cX11_expression 176 = .ok (.invokevirtual 199, 3) := by decide +kernel
theorem dX11_expression_179 : decode cX11_expression 179 = .ok (.aload_n 0, 1) := by decide +kernel
theorem dX11_expression_180 : decode cX11_expression 180 = .ok (.getfield 44, 3) := by decide +kernel
theorem dX11_expression_183 : decode cX11_expression 183 = .ok (.aload_n 0, 1) := by decide +kernel
theorem dX11_expression_184 : decode cX11_expression 184 = .ok (.getfield 193, 3) := by decide +kernel
theorem dX11_expression_187 : decode cX11_expression 187 = .ok (.iconst 1, 1) := by decide +kernel
theorem dX11_expression_188 : decode cX11_expression 188 = .ok (.bastore, 1) := by decide +kernel
theorem dX11_expression_189 : decode cX11_expression 189 = .ok (.aload_n 0, 1) := by decide +kernel
theorem dX11_expression_190 : decode cX11_expression 190 = .ok (.invokevirtual 162, 3) := by decide +kernel
theorem dX11_expression_193 : decode cX11_expression 193 = .ok (.aload_n 0, 1) := by decide +kernel
theorem dX11_expression_194 : decode cX11_expression 194 = .ok (.iconst 0, 1) := by decide +kernel
theorem dX11_expression_195 : decode cX11_expression 195 = .ok (.invokevirtual 211, 3) := by decide +kernel
theorem dX11_expression_198 : decode cX11_expression 198 = .ok (.goto 139, 3) := by decide +kernel
theorem dX11_expression_201 : decode cX11_expression 201 = .ok (.aload_n 0, 1) := by decide +kernel
theorem dX11_expression_202 : decode cX11_expression 202 = .ok (.bipush 43, 2) := by decide +kernel
theorem dX11_expression_204 : decode cX11_expression 204 = .ok (.invokevirtual 196, 3) := by decide +kernel
theorem dX11_expression_207 : decode cX11_expression 207 = .ok (.ifCond .ne 12, 3) := by decide +kernel
theorem dX11_expression_210 : decode cX11_expression 210 = .ok (.aload_n 0, 1) := by decide +kernel
theorem dX11_expression_211 : decode cX11_expression 211 = .ok (.bipush 45, 2) := by decide +kernel
theorem dX11_expression_213 : decode cX11_expression 213 = .ok (.invokevirtual 196, 3) := by decide +kernel
theorem dX11_expression_216 : decode cX11_expression 216 = .ok (.ifCond .eq 40, 3) := by decide +kernel
theorem dX11_expression_219 : decode cX11_expression 219 = .ok (.aload_n 0, 1) := by decide +kernel
theorem dX11_expression_220 : decode cX11_expression 220 = .ok (.iconst 5, 1) := by decide +kernel
theorem dX11_expression_221 : decode cX11_expression 221 = .ok (.invokevirtual 208, 3) := by decide +kernel
theorem dX11_expression_224 : decode cX11_expression 224 = .ok (.aload_n 0, 1) := by decide +kernel
theorem dX11_expression_225 : decode cX11_expression 225 = .ok (.aload_n 0, 1) := by decide +kernel
theorem dX11_expression_226 : decode cX11_expression 226 = .ok (.bipush 43, 2) := by decide +kernel
theorem dX11_expression_228 : decode cX11_expression 228 = .ok (.invokevirtual 196, 3) := by decide +kernel
theorem dX11_expression_231 : decode cX11_expression 231 = .ok (.ifCond .eq 8, 3) := by decide +kernel
theorem dX11_expression_234 : decode cX11_expression 234 = .ok (.bipush 8, 2) := by decide +kernel
theorem dX11_expression_236 : decode cX11_expression 236 = .ok (.goto 5, 3) := by decide +kernel
theorem dX11_expression_239 : decode cX11_expression 239 = .ok (.bipush 9, 2) := by decide +kernel
theorem dX11_expression_241 : decode cX11_expression 241 = .ok (.invokevirtual 199, 3) := by decide +kernel
theorem dX11_expression_244 : decode cX11_expression 244 = .ok (.aload_n 0, 1) := by decide +kernel
theorem dX11_expression_245 : decode cX11_expression 245 = .ok (.invokevirtual 162, 3) := by decide +kernel
theorem dX11_expression_248 : decode cX11_expression 248 = .ok (.aload_n 0, 1) := by decide +kernel
theorem dX11_expression_249 : decode cX11_expression 249 = .ok (.iconst 0, 1) := by decide +kernel
theorem dX11_expression_250 : decode cX11_expression 250 = .ok (.invokevirtual 211, 3) := by decide +kernel
theorem dX11_expression_253 : decode cX11_expression 253 = .ok (.goto 84, 3) := by decide +kernel
theorem dX11_expression_256 : decode cX11_expression 256 = .ok (.aload_n 0, 1) := by decide +kernel
theorem dX11_expression_257 : decode cX11_expression 257 = .ok (.bipush 42, 2) := by decide +kernel
theorem dX11_expression_259 : decode cX11_expression 259 = .ok (.invokevirtual 196, 3) := by decide +kernel
theorem dX11_expression_262 : decode cX11_expression 262 = .ok (.ifCond .ne 12, 3) := by decide +kernel
theorem dX11_expression_265 : decode cX11_expression 265 = .ok (.aload_n 0, 1) := by decide +kernel
theorem dX11_expression_266 : decode cX11_expression 266 = .ok (.bipush 47, 2) := by decide +kernel
theorem dX11_expression_268 : decode cX11_expression 268 = .ok (.invokevirtual 196, 3) := by decide +kernel
theorem dX11_expression_271 : decode cX11_expression 271 = .ok (.ifCond .eq 41, 3) := by decide +kernel
theorem dX11_expression_274 : decode cX11_expression 274 = .ok (.aload_n 0, 1) := by decide +kernel
theorem dX11_expression_275 : decode cX11_expression 275 = .ok (.bipush 6, 2) := by decide +kernel
theorem dX11_expression_277 : decode cX11_expression 277 = .ok (.invokevirtual 208, 3) := by decide +kernel
theorem dX11_expression_280 : decode cX11_expression 280 = .ok (.aload_n 0, 1) := by decide +kernel
theorem dX11_expression_281 : decode cX11_expression 281 = .ok (.aload_n 0, 1) := by decide +kernel
theorem dX11_expression_282 : decode cX11_expression 282 = .ok (.bipush 42, 2) := by decide +kernel
theorem dX11_expression_284 : decode cX11_expression 284 = .ok (.invokevirtual 196, 3) := by decide +kernel
theorem dX11_expression_287 : decode cX11_expression 287 = .ok (.ifCond .eq 8, 3) := by decide +kernel
theorem dX11_expression_290 : decode cX11_expression 290 = .ok (.bipush 10, 2) := by decide +kernel
theorem dX11_expression_292 : decode cX11_expression 292 = .ok (.goto 5, 3) := by decide +kernel
theorem dX11_expression_295 : decode cX11_expression 295 = .ok (.bipush 11, 2) := by decide +kernel
theorem dX11_expression_297 : decode cX11_expression 297 = .ok (.invokevirtual 199, 3) := by decide +kernel
theorem dX11_expression_300 : decode cX11_expression 300 = .ok (.aload_n 0, 1) := by decide +kernel
theorem dX11_expression_301 : decode cX11_expression 301 = .ok (.invokevirtual 162, 3) := by decide +kernel
theorem dX11_expression_304 : decode cX11_expression 304 = .ok (.aload_n 0, 1) := by decide +kernel
theorem dX11_expression_305 : decode cX11_expression 305 = .ok (.iconst 0, 1) := by decide +kernel
theorem dX11_expression_306 : decode cX11_expression 306 = .ok (.invokevirtual 211, 3) := by decide +kernel
theorem dX11_expression_309 : decode cX11_expression 309 = .ok (.goto 28, 3) := by decide +kernel
theorem dX11_expression_312 : decode cX11_expression 312 = .ok (.aload_n 0, 1) := by decide +kernel
theorem dX11_expression_313 : decode cX11_expression 313 = .ok (.bipush 41, 2) := by decide +kernel
theorem dX11_expression_315 : decode cX11_expression 315 = .ok (.invokevirtual 196, 3) := by decide +kernel
theorem dX11_expression_318 : decode cX11_expression 318 = .ok (.ifCond .eq 17, 3) := by decide +kernel
theorem dX11_expression_321 : decode cX11_expression 321 = .ok (.aload_n 0, 1) := by decide +kernel
theorem dX11_expression_322 : decode cX11_expression 322 = .ok (.invokevirtual 215, 3) := by decide +kernel
theorem dX11_expression_325 : decode cX11_expression 325 = .ok (.ifCond .eq 10, 3) := by decide +kernel
theorem dX11_expression_328 : decode cX11_expression 328 = .ok (.aload_n 0, 1) := by decide +kernel
theorem dX11_expression_329 : decode cX11_expression 329 = .ok (.invokevirtual 218, 3) := by decide +kernel
theorem dX11_expression_332 : decode cX11_expression 332 = .ok (.goto 5, 3) := by decide +kernel
theorem dX11_expression_335 : decode cX11_expression 335 = .ok (.iconst 0, 1) := by decide +kernel
theorem dX11_expression_336 : decode cX11_expression 336 = .ok (.istore_n 3, 1) := by decide +kernel
theorem dX11_expression_337 : decode cX11_expression 337 = .ok (.goto (-298), 3) := by decide +kernel
theorem dX11_expression_340 : decode cX11_expression 340 = .ok (.aload_n 0, 1) := by decide +kernel
theorem dX11_expression_341 : decode cX11_expression 341 = .ok (.invokevirtual 158, 3) := by decide +kernel
theorem dX11_expression_344 : decode cX11_expression 344 = .ok (.ifCond .eq 16, 3) := by decide +kernel
theorem dX11_expression_347 : decode cX11_expression 347 = .ok (.aload_n 0, 1) := by decide +kernel
theorem dX11_expression_348 : decode cX11_expression 348 = .ok (.getfield 193, 3) := by decide +kernel
theorem dX11_expression_351 : decode cX11_expression 351 = .ok (.iconst 1, 1) := by decide +kernel
theorem dX11_expression_352 : decode cX11_expression 352 = .ok (.if_icmp .le 8, 3) := by decide +kernel
theorem dX11_expression_355 : decode cX11_expression 355 = .ok (.aload_n 0, 1) := by decide +kernel
theorem dX11_expression_356 : decode cX11_expression 356 = .ok (.iconst 1, 1) := by decide +kernel
theorem dX11_expression_357 : decode cX11_expression 357 = .ok (.invokevirtual 165, 3) := by decide +kernel
theorem dX11_expression_360 : decode cX11_expression 360 = .ok (.aload_n 0, 1) := by decide +kernel
theorem dX11_expression_361 : decode cX11_expression 361 = .ok (.iconst 0, 1) := by decide +kernel
theorem dX11_expression_362 : decode cX11_expression 362 = .ok (.invokevirtual 208, 3) := by decide +kernel
theorem dX11_expression_365 : decode cX11_expression 365 = .ok (.aload_n 0, 1) := by decide +kernel
theorem dX11_expression_366 : decode cX11_expression 366 = .ok (.iconst 0, 1) := by decide +kernel
theorem dX11_expression_367 : decode cX11_expression 367 = .ok (.invokevirtual 180, 3) := by decide +kernel
theorem dX11_expression_370 : decode cX11_expression 370 = .ok (.return_, 1) := by decide +kernel
theorem dX11_begins_0 : decode cX11_begins 0 = .ok (.iload_n 1, 1) := by decide +kernel
theorem dX11_begins_1 : decode cX11_begins 1 = .ok (.ifCond .eq 8, 3) := by decide +kernel
theorem dX11_begins_4 : decode cX11_begins 4 = .ok (.aload_n 0, 1) := by decide +kernel
theorem dX11_begins_5 : decode cX11_begins 5 = .ok (.iconst 2, 1) := by decide +kernel
theorem dX11_begins_6 : decode cX11_begins 6 = .ok (.invokevirtual 165, 3) := by decide +kernel
theorem dX11_begins_9 : decode cX11_begins 9 = .ok (.iload_n 2, 1) := by decide +kernel
theorem dX11_begins_10 : decode cX11_begins 10 = .ok (.ifCond .eq 8, 3) := by decide +kernel
theorem dX11_begins_13 : decode cX11_begins 13 = .ok (.aload_n 0, 1) := by decide +kernel
theorem dX11_begins_14 : decode cX11_begins 14 = .ok (.iconst 5, 1) := by decide +kernel
theorem dX11_begins_15 : decode cX11_begins 15 = .ok (.invokevirtual 165, 3) := by decide +kernel
theorem dX11_begins_18 : decode cX11_begins 18 = .ok (.aload_n 0, 1) := by decide +kernel
theorem dX11_begins_19 : decode cX11_begins 19 = .ok (.invokevirtual 158, 3) := by decide +kernel
theorem dX11_begins_22 : decode cX11_begins 22 = .ok (.ifCond .ne 5, 3) := by decide +kernel
theorem dX11_begins_25 : decode cX11_begins 25 = .ok (.iconst 0, 1) := by decide +kernel
theorem dX11_begins_26 : decode cX11_begins 26 = .ok (.ireturn, 1) := by decide +kernel
theorem dX11_begins_27 : decode cX11_begins 27 = .ok (.aload_n 0, 1) := by decide +kernel
theorem dX11_begins_28 : decode cX11_begins 28 = .ok (.invokevirtual 162, 3) := by decide +kernel
theorem dX11_begins_31 : decode cX11_begins 31 = .ok (.iconst 1, 1) := by decide +kernel
theorem dX11_begins_32 : decode cX11_begins 32 = .ok (.ireturn, 1) := by decide +kernel
theorem dX11_readsDeed_0 : decode cX11_readsDeed 0 = .ok (.aload_n 0, 1) := by decide +kernel
theorem dX11_readsDeed_1 : decode cX11_readsDeed 1 = .ok (.getfield 221, 3) := by decide +kernel
theorem dX11_readsDeed_4 : decode cX11_readsDeed 4 = .ok (.istore_n 1, 1) := by decide +kernel
theorem dX11_readsDeed_5 : decode cX11_readsDeed 5 = .ok (.iconst 0, 1) := by decide +kernel
theorem dX11_readsDeed_6 : decode cX11_readsDeed 6 = .ok (.istore_n 2, 1) := by decide +kernel
theorem dX11_readsDeed_7 : decode cX11_readsDeed 7 = .ok (.iconst 1, 1) := by decide +kernel
theorem dX11_readsDeed_8 : decode cX11_readsDeed 8 = .ok (.istore_n 3, 1) := by decide +kernel
theorem dX11_readsDeed_9 : decode cX11_readsDeed 9 = .ok (.iload_n 3, 1) := by decide +kernel
theorem dX11_readsDeed_10 : decode cX11_readsDeed 10 = .ok (.ifCond .eq 81, 3) := by decide +kernel
theorem dX11_readsDeed_13 : decode cX11_readsDeed 13 = .ok (.aload_n 0, 1) := by decide +kernel
theorem dX11_readsDeed_14 : decode cX11_readsDeed 14 = .ok (.invokevirtual 158, 3) := by decide +kernel
theorem dX11_readsDeed_17 : decode cX11_readsDeed 17 = .ok (.ifCond .eq 74, 3) := by decide +kernel
theorem dX11_readsDeed_20 : decode cX11_readsDeed 20 = .ok (.iload_n 2, 1) := by decide +kernel
theorem dX11_readsDeed_21 : decode cX11_readsDeed 21 = .ok (.bipush 8, 2) := by decide +kernel
theorem dX11_readsDeed_23 : decode cX11_readsDeed 23 = .ok (.if_icmp .ne 16, 3) := by decide +kernel
theorem dX11_readsDeed_26 : decode cX11_readsDeed 26 = .ok (.aload_n 0, 1) := by decide +kernel
theorem dX11_readsDeed_27 : decode cX11_readsDeed 27 = .ok (.getfield 132, 3) := by decide +kernel
theorem dX11_readsDeed_30 : decode cX11_readsDeed 30 = .ok (.iconst 2, 1) := by decide +kernel
theorem dX11_readsDeed_31 : decode cX11_readsDeed 31 = .ok (.if_icmp .ne 8, 3) := by decide +kernel
theorem dX11_readsDeed_34 : decode cX11_readsDeed 34 = .ok (.aload_n 0, 1) := by decide +kernel
theorem dX11_readsDeed_35 : decode cX11_readsDeed 35 = .ok (.iconst 2, 1) := by decide +kernel
theorem dX11_readsDeed_36 : decode cX11_readsDeed 36 = .ok (.invokevirtual 165, 3) := by decide +kernel
theorem dX11_readsDeed_39 : decode cX11_readsDeed 39 = .ok (.aload_n 0, 1) := by decide +kernel
theorem dX11_readsDeed_40 : decode cX11_readsDeed 40 = .ok (.iconst 0, 1) := by decide +kernel
theorem dX11_readsDeed_41 : decode cX11_readsDeed 41 = .ok (.bipush 9, 2) := by decide +kernel
theorem dX11_readsDeed_43 : decode cX11_readsDeed 43 = .ok (.invokevirtual 224, 3) := by decide +kernel
theorem dX11_readsDeed_46 : decode cX11_readsDeed 46 = .ok (.istore 4, 2) := by decide +kernel
theorem dX11_readsDeed_48 : decode cX11_readsDeed 48 = .ok (.aload_n 0, 1) := by decide +kernel
theorem dX11_readsDeed_49 : decode cX11_readsDeed 49 = .ok (.invokevirtual 158, 3) := by decide +kernel
theorem dX11_readsDeed_52 : decode cX11_readsDeed 52 = .ok (.ifCond .ne 4, 3) := by decide +kernel
theorem dX11_readsDeed_55 : decode cX11_readsDeed 55 = .ok (.return_, 1) := by decide +kernel
theorem dX11_readsDeed_56 : decode cX11_readsDeed 56 = .ok (.aload_n 0, 1) := by decide +kernel
theorem dX11_readsDeed_57 : decode cX11_readsDeed 57 = .ok (.getfield 35, 3) := by decide +kernel
theorem dX11_readsDeed_60 : decode cX11_readsDeed 60 = .ok (.iconst 1, 1) := by decide +kernel
theorem dX11_readsDeed_61 : decode cX11_readsDeed 61 = .ok (.bipush 8, 2) := by decide +kernel
theorem dX11_readsDeed_63 : decode cX11_readsDeed 63 = .ok (.iload_n 1, 1) := by decide +kernel
theorem dX11_readsDeed_64 : decode cX11_readsDeed 64 = .ok (.imul, 1) := by decide +kernel
theorem dX11_readsDeed_65 : decode cX11_readsDeed 65 = .ok (.iadd, 1) := by decide +kernel
theorem dX11_readsDeed_66 : decode cX11_readsDeed 66 = .ok (.iload_n 2, 1) := by decide +kernel
theorem dX11_readsDeed_67 : decode cX11_readsDeed 67 = .ok (.iadd, 1) := by decide +kernel
theorem dX11_readsDeed_68 : decode cX11_readsDeed 68 = .ok (.iload 4, 2) := by decide +kernel
theorem dX11_readsDeed_70 : decode cX11_readsDeed 70 = .ok (.iastore, 1) := by decide +kernel
theorem dX11_readsDeed_71 : decode cX11_readsDeed 71 = .ok (.iinc 2 1, 3) := by decide +kernel
theorem dX11_readsDeed_74 : decode cX11_readsDeed 74 = .ok (.aload_n 0, 1) := by decide +kernel
theorem dX11_readsDeed_75 : decode cX11_readsDeed 75 = .ok (.getfield 132, 3) := by decide +kernel
theorem dX11_readsDeed_78 : decode cX11_readsDeed 78 = .ok (.iconst 2, 1) := by decide +kernel
theorem dX11_readsDeed_79 : decode cX11_readsDeed 79 = .ok (.if_icmp .ne 7, 3) := by decide +kernel
theorem dX11_readsDeed_82 : decode cX11_readsDeed 82 = .ok (.iconst 1, 1) := by decide +kernel
theorem dX11_readsDeed_83 : decode cX11_readsDeed 83 = .ok (.goto 4, 3) := by decide +kernel
theorem dX11_readsDeed_86 : decode cX11_readsDeed 86 = .ok (.iconst 0, 1) := by decide +kernel
theorem dX11_readsDeed_87 : decode cX11_readsDeed 87 = .ok (.istore_n 3, 1) := by decide +kernel
theorem dX11_readsDeed_88 : decode cX11_readsDeed 88 = .ok (.goto (-79), 3) := by decide +kernel
theorem dX11_readsDeed_91 : decode cX11_readsDeed 91 = .ok (.aload_n 0, 1) := by decide +kernel
theorem dX11_readsDeed_92 : decode cX11_readsDeed 92 = .ok (.getfield 32, 3) := by decide +kernel
theorem dX11_readsDeed_95 : decode cX11_readsDeed 95 = .ok (.iload_n 1, 1) := by decide +kernel
theorem dX11_readsDeed_96 : decode cX11_readsDeed 96 = .ok (.iload_n 2, 1) := by decide +kernel
theorem dX11_readsDeed_97 : decode cX11_readsDeed 97 = .ok (.iastore, 1) := by decide +kernel
theorem dX11_readsDeed_98 : decode cX11_readsDeed 98 = .ok (.aload_n 0, 1) := by decide +kernel
theorem dX11_readsDeed_99 : decode cX11_readsDeed 99 = .ok (.dup, 1) := by decide +kernel
theorem dX11_readsDeed_100 : decode cX11_readsDeed 100 = .ok (.getfield 221, 3) := by decide +kernel
theorem dX11_readsDeed_103 : decode cX11_readsDeed 103 = .ok (.iconst 1, 1) := by decide +kernel
theorem dX11_readsDeed_104 : decode cX11_readsDeed 104 = .ok (.iadd, 1) := by decide +kernel
theorem dX11_readsDeed_105 : decode cX11_readsDeed 105 = .ok (.putfield 221, 3) := by decide +kernel
theorem dX11_readsDeed_108 : decode cX11_readsDeed 108 = .ok (.return_, 1) := by decide +kernel
theorem dX11_readsStile_0 : decode cX11_readsStile 0 = .ok (.aload_n 0, 1) := by decide +kernel
theorem dX11_readsStile_1 : decode cX11_readsStile 1 = .ok (.getfield 132, 3) := by decide +kernel
theorem dX11_readsStile_4 : decode cX11_readsStile 4 = .ok (.iconst 2, 1) := by decide +kernel
theorem dX11_readsStile_5 : decode cX11_readsStile 5 = .ok (.if_icmp .ne 29, 3) := by decide +kernel
theorem dX11_readsStile_8 : decode cX11_readsStile 8 = .ok (.aload_n 0, 1) := by decide +kernel
theorem dX11_readsStile_9 : decode cX11_readsStile 9 = .ok (.getfield 142, 3) := by decide +kernel
theorem dX11_readsStile_12 : decode cX11_readsStile 12 = .ok (.iconst 4, 1) := by decide +kernel
theorem dX11_readsStile_13 : decode cX11_readsStile 13 = .ok (.if_icmp .gt 21, 3) := by decide +kernel
theorem dX11_readsStile_16 : decode cX11_readsStile 16 = .ok (.aload_n 0, 1) := by decide +kernel
theorem dX11_readsStile_17 : decode cX11_readsStile 17 = .ok (.getfield 126, 3) := by decide +kernel
theorem dX11_readsStile_20 : decode cX11_readsStile 20 = .ok (.iconst 1, 1) := by decide +kernel
theorem dX11_readsStile_21 : decode cX11_readsStile 21 = .ok (.iadd, 1) := by decide +kernel
theorem dX11_readsStile_22 : decode cX11_readsStile 22 = .ok (.aload_n 0, 1) := by decide +kernel
theorem dX11_readsStile_23 : decode cX11_readsStile 23 = .ok (.getfield 221, 3) := by decide +kernel
theorem dX11_readsStile_26 : decode cX11_readsStile 26 = .ok (.if_icmp .lt 8, 3) := by decide +kernel
theorem dX11_readsStile_29 : decode cX11_readsStile 29 = .ok (.aload_n 0, 1) := by decide +kernel
theorem dX11_readsStile_30 : decode cX11_readsStile 30 = .ok (.iconst 3, 1) := by decide +kernel
theorem dX11_readsStile_31 : decode cX11_readsStile 31 = .ok (.invokevirtual 165, 3) := by decide +kernel
theorem dX11_readsStile_34 : decode cX11_readsStile 34 = .ok (.aload_n 0, 1) := by decide +kernel
theorem dX11_readsStile_35 : decode cX11_readsStile 35 = .ok (.aload_n 0, 1) := by decide +kernel
theorem dX11_readsStile_36 : decode cX11_readsStile 36 = .ok (.getfield 221, 3) := by decide +kernel
theorem dX11_readsStile_39 : decode cX11_readsStile 39 = .ok (.invokevirtual 228, 3) := by decide +kernel
theorem dX11_readsStile_42 : decode cX11_readsStile 42 = .ok (.ifCond .ne 4, 3) := by decide +kernel
theorem dX11_readsStile_45 : decode cX11_readsStile 45 = .ok (.return_, 1) := by decide +kernel
theorem dX11_readsStile_46 : decode cX11_readsStile 46 = .ok (.aload_n 0, 1) := by decide +kernel
theorem dX11_readsStile_47 : decode cX11_readsStile 47 = .ok (.getfield 126, 3) := by decide +kernel
theorem dX11_readsStile_50 : decode cX11_readsStile 50 = .ok (.istore_n 1, 1) := by decide +kernel
theorem dX11_readsStile_51 : decode cX11_readsStile 51 = .ok (.aload_n 0, 1) := by decide +kernel
theorem dX11_readsStile_52 : decode cX11_readsStile 52 = .ok (.invokevirtual 162, 3) := by decide +kernel
theorem dX11_readsStile_55 : decode cX11_readsStile 55 = .ok (.aload_n 0, 1) := by decide +kernel
theorem dX11_readsStile_56 : decode cX11_readsStile 56 = .ok (.aload_n 0, 1) := by decide +kernel
theorem dX11_readsStile_57 : decode cX11_readsStile 57 = .ok (.getfield 32, 3) := by decide +kernel
theorem dX11_readsStile_60 : decode cX11_readsStile 60 = .ok (.iload_n 1, 1) := by decide +kernel
theorem dX11_readsStile_61 : decode cX11_readsStile 61 = .ok (.iaload, 1) := by decide +kernel
theorem dX11_readsStile_62 : decode cX11_readsStile 62 = .ok (.aload_n 0, 1) := by decide +kernel
theorem dX11_readsStile_63 : decode cX11_readsStile 63 = .ok (.getfield 32, 3) := by decide +kernel
theorem dX11_readsStile_66 : decode cX11_readsStile 66 = .ok (.iload_n 1, 1) := by decide +kernel
theorem dX11_readsStile_67 : decode cX11_readsStile 67 = .ok (.iconst 1, 1) := by decide +kernel
theorem dX11_readsStile_68 : decode cX11_readsStile 68 = .ok (.iadd, 1) := by decide +kernel
theorem dX11_readsStile_69 : decode cX11_readsStile 69 = .ok (.iaload, 1) := by decide +kernel
theorem dX11_readsStile_70 : decode cX11_readsStile 70 = .ok (.invokestatic 231, 3) := by decide +kernel
theorem dX11_readsStile_73 : decode cX11_readsStile 73 = .ok (.invokevirtual 228, 3) := by decide +kernel
theorem dX11_readsStile_76 : decode cX11_readsStile 76 = .ok (.ifCond .ne 4, 3) := by decide +kernel
theorem dX11_readsStile_79 : decode cX11_readsStile 79 = .ok (.return_, 1) := by decide +kernel
theorem dX11_readsStile_80 : decode cX11_readsStile 80 = .ok (.aload_n 0, 1) := by decide +kernel
theorem dX11_readsStile_81 : decode cX11_readsStile 81 = .ok (.getfield 35, 3) := by decide +kernel
theorem dX11_readsStile_84 : decode cX11_readsStile 84 = .ok (.bipush 49, 2) := by decide +kernel
theorem dX11_readsStile_86 : decode cX11_readsStile 86 = .ok (.iload_n 1, 1) := by decide +kernel
theorem dX11_readsStile_87 : decode cX11_readsStile 87 = .ok (.iadd, 1) := by decide +kernel
theorem dX11_readsStile_88 : decode cX11_readsStile 88 = .ok (.iaload, 1) := by decide +kernel
theorem dX11_readsStile_89 : decode cX11_readsStile 89 = .ok (.aload_n 0, 1) := by decide +kernel
theorem dX11_readsStile_90 : decode cX11_readsStile 90 = .ok (.getfield 126, 3) := by decide +kernel
theorem dX11_readsStile_93 : decode cX11_readsStile 93 = .ok (.ishr, 1) := by decide +kernel
theorem dX11_readsStile_94 : decode cX11_readsStile 94 = .ok (.iconst 1, 1) := by decide +kernel
theorem dX11_readsStile_95 : decode cX11_readsStile 95 = .ok (.iand, 1) := by decide +kernel
theorem dX11_readsStile_96 : decode cX11_readsStile 96 = .ok (.iconst 1, 1) := by decide +kernel
theorem dX11_readsStile_97 : decode cX11_readsStile 97 = .ok (.if_icmp .ne 8, 3) := by decide +kernel
theorem dX11_readsStile_100 : decode cX11_readsStile 100 = .ok (.aload_n 0, 1) := by decide +kernel
theorem dX11_readsStile_101 : decode cX11_readsStile 101 = .ok (.iconst 4, 1) := by decide +kernel
theorem dX11_readsStile_102 : decode cX11_readsStile 102 = .ok (.invokevirtual 165, 3) := by decide +kernel
theorem dX11_readsStile_105 : decode cX11_readsStile 105 = .ok (.aload_n 0, 1) := by decide +kernel
theorem dX11_readsStile_106 : decode cX11_readsStile 106 = .ok (.invokevirtual 158, 3) := by decide +kernel
