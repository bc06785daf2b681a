theorem dX11_then_73 : decode cX11_then 73 = .ok (.goto 40, 3) := by decide +kernel
theorem dX11_then_76 : decode cX11_then 76 = .ok (.iload_n 3, 1) := by decide +kernel
theorem dX11_then_77 : decode cX11_then 77 = .ok (.iconst 2, 1) := by decide +kernel
theorem dX11_then_78 : decode cX11_then 78 = .ok (.if_icmp .ne 16, 3) := by decide +kernel
theorem dX11_then_81 : decode cX11_then 81 = .ok (.aload_n 0, 1) := by decide +kernel
theorem dX11_then_82 : decode cX11_then 82 = .ok (.getfield 48, 3) := by decide +kernel
theorem dX11_then_85 : decode cX11_then 85 = .ok (.sipush 146, 3) := by decide +kernel
theorem dX11_then_88 : decode cX11_then 88 = .ok (.iload_n 1, 1) := by decide +kernel
theorem dX11_then_89 : decode cX11_then 89 = .ok (.iadd, 1) := by decide +kernel
theorem dX11_then_90 : decode cX11_then 90 = .ok (.iaload, 1) := by decide +kernel
theorem dX11_then_91 : decode cX11_then 91 = .ok (.goto 22, 3) := by decide +kernel
theorem dX11_then_94 : decode cX11_then 94 = .ok (.aload_n 0, 1) := by decide +kernel
theorem dX11_then_95 : decode cX11_then 95 = .ok (.getfield 48, 3) := by decide +kernel
theorem dX11_then_98 : decode cX11_then 98 = .ok (.sipush 140, 3) := by decide +kernel
theorem dX11_then_101 : decode cX11_then 101 = .ok (.iload_n 1, 1) := by decide +kernel
theorem dX11_then_102 : decode cX11_then 102 = .ok (.iadd, 1) := by decide +kernel
theorem dX11_then_103 : decode cX11_then 103 = .ok (.iaload, 1) := by decide +kernel
theorem dX11_then_104 : decode cX11_then 104 = .ok (.iconst (-1), 1) := by decide +kernel
theorem dX11_then_105 : decode cX11_then 105 = .ok (.if_icmp .ne 7, 3) := by decide +kernel
theorem dX11_then_108 : decode cX11_then 108 = .ok (.iconst 0, 1) := by decide +kernel
theorem dX11_then_109 : decode cX11_then 109 = .ok (.goto 4, 3) := by decide +kernel
theorem dX11_then_112 : decode cX11_then 112 = .ok (.iconst 1, 1) := by decide +kernel
theorem dX11_then_113 : decode cX11_then 113 = .ok (.ireturn, 1) := by decide +kernel
theorem dX11_comes_0 : decode cX11_comes 0 = .ok (.aload_n 0, 1) := by decide +kernel
theorem dX11_comes_1 : decode cX11_comes 1 = .ok (.iconst 0, 1) := by decide +kernel
theorem dX11_comes_2 : decode cX11_comes 2 = .ok (.putfield 99, 3) := by decide +kernel
theorem dX11_comes_5 : decode cX11_comes 5 = .ok (.aload_n 0, 1) := by decide +kernel
theorem dX11_comes_6 : decode cX11_comes 6 = .ok (.iload_n 1, 1) := by decide +kernel
theorem dX11_comes_7 : decode cX11_comes 7 = .ok (.invokevirtual 368, 3) := by decide +kernel
theorem dX11_comes_10 : decode cX11_comes 10 = .ok (.ifCond .ne 5, 3) := by decide +kernel
theorem dX11_comes_13 : decode cX11_comes 13 = .ok (.iconst 0, 1) := by decide +kernel
theorem dX11_comes_14 : decode cX11_comes 14 = .ok (.ireturn, 1) := by decide +kernel
theorem dX11_comes_15 : decode cX11_comes 15 = .ok (.aload_n 0, 1) := by decide +kernel
theorem dX11_comes_16 : decode cX11_comes 16 = .ok (.invokevirtual 389, 3) := by decide +kernel
theorem dX11_comes_19 : decode cX11_comes 19 = .ok (.iconst 1, 1) := by decide +kernel
theorem dX11_comes_20 : decode cX11_comes 20 = .ok (.istore_n 2, 1) := by decide +kernel
theorem dX11_comes_21 : decode cX11_comes 21 = .ok (.iload_n 2, 1) := by decide +kernel
theorem dX11_comes_22 : decode cX11_comes 22 = .ok (.bipush 60, 2) := by decide +kernel
theorem dX11_comes_24 : decode cX11_comes 24 = .ok (.if_icmp .gt 29, 3) := by decide +kernel
theorem dX11_comes_27 : decode cX11_comes 27 = .ok (.aload_n 0, 1) := by decide +kernel
theorem dX11_comes_28 : decode cX11_comes 28 = .ok (.bipush 79, 2) := by decide +kernel
theorem dX11_comes_30 : decode cX11_comes 30 = .ok (.invokevirtual 341, 3) := by decide +kernel
theorem dX11_comes_33 : decode cX11_comes 33 = .ok (.aload_n 0, 1) := by decide +kernel
theorem dX11_comes_34 : decode cX11_comes 34 = .ok (.getfield 323, 3) := by decide +kernel
theorem dX11_comes_37 : decode cX11_comes 37 = .ok (.iload_n 1, 1) := by decide +kernel
theorem dX11_comes_38 : decode cX11_comes 38 = .ok (.ishr, 1) := by decide +kernel
theorem dX11_comes_39 : decode cX11_comes 39 = .ok (.iconst 1, 1) := by decide +kernel
theorem dX11_comes_40 : decode cX11_comes 40 = .ok (.iand, 1) := by decide +kernel
theorem dX11_comes_41 : decode cX11_comes 41 = .ok (.iconst 1, 1) := by decide +kernel
theorem dX11_comes_42 : decode cX11_comes 42 = .ok (.if_icmp .ne 5, 3) := by decide +kernel
theorem dX11_comes_45 : decode cX11_comes 45 = .ok (.iload_n 2, 1) := by decide +kernel
theorem dX11_comes_46 : decode cX11_comes 46 = .ok (.ireturn, 1) := by decide +kernel
theorem dX11_comes_47 : decode cX11_comes 47 = .ok (.iinc 2 1, 3) := by decide +kernel
theorem dX11_comes_50 : decode cX11_comes 50 = .ok (.goto (-29), 3) := by decide +kernel
theorem dX11_comes_53 : decode cX11_comes 53 = .ok (.iconst (-1), 1) := by decide +kernel
theorem dX11_comes_54 : decode cX11_comes 54 = .ok (.ireturn, 1) := by decide +kernel
theorem dX11_meet_0 : decode cX11_meet 0 = .ok (.aload_n 0, 1) := by decide +kernel
theorem dX11_meet_1 : decode cX11_meet 1 = .ok (.iconst 0, 1) := by decide +kernel
theorem dX11_meet_2 : decode cX11_meet 2 = .ok (.putfield 99, 3) := by decide +kernel
theorem dX11_meet_5 : decode cX11_meet 5 = .ok (.aload_n 0, 1) := by decide +kernel
theorem dX11_meet_6 : decode cX11_meet 6 = .ok (.iload_n 1, 1) := by decide +kernel
theorem dX11_meet_7 : decode cX11_meet 7 = .ok (.invokevirtual 368, 3) := by decide +kernel
theorem dX11_meet_10 : decode cX11_meet 10 = .ok (.ifCond .eq 11, 3) := by decide +kernel
theorem dX11_meet_13 : decode cX11_meet 13 = .ok (.aload_n 0, 1) := by decide +kernel
theorem dX11_meet_14 : decode cX11_meet 14 = .ok (.iload_n 2, 1) := by decide +kernel
theorem dX11_meet_15 : decode cX11_meet 15 = .ok (.invokevirtual 368, 3) := by decide +kernel
theorem dX11_meet_18 : decode cX11_meet 18 = .ok (.ifCond .ne 5, 3) := by decide +kernel
theorem dX11_meet_21 : decode cX11_meet 21 = .ok (.iconst 0, 1) := by decide +kernel
theorem dX11_meet_22 : decode cX11_meet 22 = .ok (.ireturn, 1) := by decide +kernel
theorem dX11_meet_23 : decode cX11_meet 23 = .ok (.aload_n 0, 1) := by decide +kernel
theorem dX11_meet_24 : decode cX11_meet 24 = .ok (.invokevirtual 389, 3) := by decide +kernel
theorem dX11_meet_27 : decode cX11_meet 27 = .ok (.iconst 0, 1) := by decide +kernel
theorem dX11_meet_28 : decode cX11_meet 28 = .ok (.istore_n 3, 1) := by decide +kernel
theorem dX11_meet_29 : decode cX11_meet 29 = .ok (.iload_n 3, 1) := by decide +kernel
theorem dX11_meet_30 : decode cX11_meet 30 = .ok (.bipush 60, 2) := by decide +kernel
theorem dX11_meet_32 : decode cX11_meet 32 = .ok (.if_icmp .gt 45, 3) := by decide +kernel
theorem dX11_meet_35 : decode cX11_meet 35 = .ok (.iload_n 1, 1) := by decide +kernel
theorem dX11_meet_36 : decode cX11_meet 36 = .ok (.iload_n 2, 1) := by decide +kernel
theorem dX11_meet_37 : decode cX11_meet 37 = .ok (.if_icmp .eq 40, 3) := by decide +kernel
theorem dX11_meet_40 : decode cX11_meet 40 = .ok (.aload_n 0, 1) := by decide +kernel
theorem dX11_meet_41 : decode cX11_meet 41 = .ok (.getfield 48, 3) := by decide +kernel
theorem dX11_meet_44 : decode cX11_meet 44 = .ok (.sipush 134, 3) := by decide +kernel
theorem dX11_meet_47 : decode cX11_meet 47 = .ok (.iload_n 1, 1) := by decide +kernel
theorem dX11_meet_48 : decode cX11_meet 48 = .ok (.iadd, 1) := by decide +kernel
theorem dX11_meet_49 : decode cX11_meet 49 = .ok (.iaload, 1) := by decide +kernel
theorem dX11_meet_50 : decode cX11_meet 50 = .ok (.aload_n 0, 1) := by decide +kernel
theorem dX11_meet_51 : decode cX11_meet 51 = .ok (.getfield 48, 3) := by decide +kernel
theorem dX11_meet_54 : decode cX11_meet 54 = .ok (.sipush 134, 3) := by decide +kernel
theorem dX11_meet_57 : decode cX11_meet 57 = .ok (.iload_n 2, 1) := by decide +kernel
theorem dX11_meet_58 : decode cX11_meet 58 = .ok (.iadd, 1) := by decide +kernel
theorem dX11_meet_59 : decode cX11_meet 59 = .ok (.iaload, 1) := by decide +kernel
theorem dX11_meet_60 : decode cX11_meet 60 = .ok (.if_icmp .ne 5, 3) := by decide +kernel
theorem dX11_meet_63 : decode cX11_meet 63 = .ok (.iload_n 3, 1) := by decide +kernel
theorem dX11_meet_64 : decode cX11_meet 64 = .ok (.ireturn, 1) := by decide +kernel
theorem dX11_meet_65 : decode cX11_meet 65 = .ok (.aload_n 0, 1) := by decide +kernel
theorem dX11_meet_66 : decode cX11_meet 66 = .ok (.bipush 79, 2) := by decide +kernel
theorem dX11_meet_68 : decode cX11_meet 68 = .ok (.invokevirtual 341, 3) := by decide +kernel
theorem dX11_meet_71 : decode cX11_meet 71 = .ok (.iinc 3 1, 3) := by decide +kernel
theorem dX11_meet_74 : decode cX11_meet 74 = .ok (.goto (-45), 3) := by decide +kernel
theorem dX11_meet_77 : decode cX11_meet 77 = .ok (.iconst (-1), 1) := by decide +kernel
theorem dX11_meet_78 : decode cX11_meet 78 = .ok (.ireturn, 1) := by decide +kernel
theorem dX11_crowdAt_0 : decode cX11_crowdAt 0 = .ok (.iconst (-1), 1) := by decide +kernel
theorem dX11_crowdAt_1 : decode cX11_crowdAt 1 = .ok (.istore_n 1, 1) := by decide +kernel
theorem dX11_crowdAt_2 : decode cX11_crowdAt 2 = .ok (.iconst 0, 1) := by decide +kernel
theorem dX11_crowdAt_3 : decode cX11_crowdAt 3 = .ok (.istore_n 2, 1) := by decide +kernel
theorem dX11_crowdAt_4 : decode cX11_crowdAt 4 = .ok (.iload_n 2, 1) := by decide +kernel
theorem dX11_crowdAt_5 : decode cX11_crowdAt 5 = .ok (.bipush 48, 2) := by decide +kernel
theorem dX11_crowdAt_7 : decode cX11_crowdAt 7 = .ok (.if_icmp .ge 37, 3) := by decide +kernel
theorem dX11_crowdAt_10 : decode cX11_crowdAt 10 = .ok (.aload_n 0, 1) := by decide +kernel
theorem dX11_crowdAt_11 : decode cX11_crowdAt 11 = .ok (.bipush 79, 2) := by decide +kernel
theorem dX11_crowdAt_13 : decode cX11_crowdAt 13 = .ok (.iload_n 2, 1) := by decide +kernel
theorem dX11_crowdAt_14 : decode cX11_crowdAt 14 = .ok (.invokevirtual 304, 3) := by decide +kernel
theorem dX11_crowdAt_17 : decode cX11_crowdAt 17 = .ok (.iload_n 1, 1) := by decide +kernel
theorem dX11_crowdAt_18 : decode cX11_crowdAt 18 = .ok (.iconst (-1), 1) := by decide +kernel
theorem dX11_crowdAt_19 : decode cX11_crowdAt 19 = .ok (.if_icmp .ne 7, 3) := by decide +kernel
theorem dX11_crowdAt_22 : decode cX11_crowdAt 22 = .ok (.iconst 0, 1) := by decide +kernel
theorem dX11_crowdAt_23 : decode cX11_crowdAt 23 = .ok (.goto 10, 3) := by decide +kernel
theorem dX11_crowdAt_26 : decode cX11_crowdAt 26 = .ok (.aload_n 0, 1) := by decide +kernel
theorem dX11_crowdAt_27 : decode cX11_crowdAt 27 = .ok (.bipush 79, 2) := by decide +kernel
theorem dX11_crowdAt_29 : decode cX11_crowdAt 29 = .ok (.iload_n 1, 1) := by decide +kernel
theorem dX11_crowdAt_30 : decode cX11_crowdAt 30 = .ok (.invokevirtual 304, 3) := by decide +kernel
theorem dX11_crowdAt_33 : decode cX11_crowdAt 33 = .ok (.if_icmp .le 5, 3) := by decide +kernel
theorem dX11_crowdAt_36 : decode cX11_crowdAt 36 = .ok (.iload_n 2, 1) := by decide +kernel
theorem dX11_crowdAt_37 : decode cX11_crowdAt 37 = .ok (.istore_n 1, 1) := by decide +kernel
theorem dX11_crowdAt_38 : decode cX11_crowdAt 38 = .ok (.iinc 2 1, 3) := by decide +kernel
theorem dX11_crowdAt_41 : decode cX11_crowdAt 41 = .ok (.goto (-37), 3) := by decide +kernel
theorem dX11_crowdAt_44 : decode cX11_crowdAt 44 = .ok (.iload_n 1, 1) := by decide +kernel
theorem dX11_crowdAt_45 : decode cX11_crowdAt 45 = .ok (.ireturn, 1) := by decide +kernel
theorem dX11_later_0 : decode cX11_later 0 = .ok (.aload_n 0, 1) := by decide +kernel
theorem dX11_later_1 : decode cX11_later 1 = .ok (.iconst 0, 1) := by decide +kernel
theorem dX11_later_2 : decode cX11_later 2 = .ok (.putfield 99, 3) := by decide +kernel
theorem dX11_later_5 : decode cX11_later 5 = .ok (.aload_n 0, 1) := by decide +kernel
theorem dX11_later_6 : decode cX11_later 6 = .ok (.iload_n 2, 1) := by decide +kernel
theorem dX11_later_7 : decode cX11_later 7 = .ok (.iconst 2, 1) := by decide +kernel
theorem dX11_later_8 : decode cX11_later 8 = .ok (.invokevirtual 365, 3) := by decide +kernel
theorem dX11_later_11 : decode cX11_later 11 = .ok (.ifCond .eq 13, 3) := by decide +kernel
theorem dX11_later_14 : decode cX11_later 14 = .ok (.aload_n 0, 1) := by decide +kernel
theorem dX11_later_15 : decode cX11_later 15 = .ok (.iload_n 1, 1) := by decide +kernel
theorem dX11_later_16 : decode cX11_later 16 = .ok (.iconst 0, 1) := by decide +kernel
theorem dX11_later_17 : decode cX11_later 17 = .ok (.iconst 2, 1) := by decide +kernel
theorem dX11_later_18 : decode cX11_later 18 = .ok (.invokevirtual 395, 3) := by decide +kernel
theorem dX11_later_21 : decode cX11_later 21 = .ok (.ifCond .ne 5, 3) := by decide +kernel
theorem dX11_later_24 : decode cX11_later 24 = .ok (.iconst 0, 1) := by decide +kernel
theorem dX11_later_25 : decode cX11_later 25 = .ok (.ireturn, 1) := by decide +kernel
theorem dX11_later_26 : decode cX11_later 26 = .ok (.aload_n 0, 1) := by decide +kernel
theorem dX11_later_27 : decode cX11_later 27 = .ok (.iload_n 1, 1) := by decide +kernel
theorem dX11_later_28 : decode cX11_later 28 = .ok (.invokevirtual 398, 3) := by decide +kernel
theorem dX11_later_31 : decode cX11_later 31 = .ok (.aload_n 0, 1) := by decide +kernel
theorem dX11_later_32 : decode cX11_later 32 = .ok (.invokevirtual 401, 3) := by decide +kernel
theorem dX11_later_35 : decode cX11_later 35 = .ok (.istore_n 3, 1) := by decide +kernel
theorem dX11_later_36 : decode cX11_later 36 = .ok (.iload_n 2, 1) := by decide +kernel
theorem dX11_later_37 : decode cX11_later 37 = .ok (.iconst 2, 1) := by decide +kernel
theorem dX11_later_38 : decode cX11_later 38 = .ok (.if_icmp .ne 12, 3) := by decide +kernel
theorem dX11_later_41 : decode cX11_later 41 = .ok (.aload_n 0, 1) := by decide +kernel
theorem dX11_later_42 : decode cX11_later 42 = .ok (.bipush 79, 2) := by decide +kernel
theorem dX11_later_44 : decode cX11_later 44 = .ok (.invokevirtual 353, 3) := by decide +kernel
theorem dX11_later_47 : decode cX11_later 47 = .ok (.goto 31, 3) := by decide +kernel
theorem dX11_later_50 : decode cX11_later 50 = .ok (.iload_n 2, 1) := by decide +kernel
theorem dX11_later_51 : decode cX11_later 51 = .ok (.iconst 1, 1) := by decide +kernel
theorem dX11_later_52 : decode cX11_later 52 = .ok (.if_icmp .ne 10, 3) := by decide +kernel
theorem dX11_later_55 : decode cX11_later 55 = .ok (.iload_n 3, 1) := by decide +kernel
theorem dX11_later_56 : decode cX11_later 56 = .ok (.invokestatic 371, 3) := by decide +kernel
theorem dX11_later_59 : decode cX11_later 59 = .ok (.goto 19, 3) := by decide +kernel
theorem dX11_later_62 : decode cX11_later 62 = .ok (.iload_n 3, 1) := by decide +kernel
theorem dX11_later_63 : decode cX11_later 63 = .ok (.iconst (-1), 1) := by decide +kernel
theorem dX11_later_64 : decode cX11_later 64 = .ok (.if_icmp .ne 7, 3) := by decide +kernel
theorem dX11_later_67 : decode cX11_later 67 = .ok (.iconst 0, 1) := by decide +kernel
theorem dX11_later_68 : decode cX11_later 68 = .ok (.goto 10, 3) := by decide +kernel
theorem dX11_later_71 : decode cX11_later 71 = .ok (.aload_n 0, 1) := by decide +kernel
theorem dX11_later_72 : decode cX11_later 72 = .ok (.bipush 79, 2) := by decide +kernel
theorem dX11_later_74 : decode cX11_later 74 = .ok (.iload_n 3, 1) := by decide +kernel
theorem dX11_later_75 : decode cX11_later 75 = .ok (.invokevirtual 304, 3) := by decide +kernel
theorem dX11_later_78 : decode cX11_later 78 = .ok (.ireturn, 1) := by decide +kernel
theorem dX11_clear_0 : decode cX11_clear 0 = .ok (.aload_n 0, 1) := by decide +kernel
theorem dX11_clear_1 : decode cX11_clear 1 = .ok (.iconst 0, 1) := by decide +kernel
theorem dX11_clear_2 : decode cX11_clear 2 = .ok (.putfield 99, 3) := by decide +kernel
theorem dX11_clear_5 : decode cX11_clear 5 = .ok (.aload_n 0, 1) := by decide +kernel
theorem dX11_clear_6 : decode cX11_clear 6 = .ok (.iload_n 1, 1) := by decide +kernel
theorem dX11_clear_7 : decode cX11_clear 7 = .ok (.invokevirtual 380, 3) := by decide +kernel
theorem dX11_clear_10 : decode cX11_clear 10 = .ok (.istore_n 2, 1) := by decide +kernel
theorem dX11_clear_11 : decode cX11_clear 11 = .ok (.iload_n 2, 1) := by decide +kernel
theorem dX11_clear_12 : decode cX11_clear 12 = .ok (.iconst (-1), 1) := by decide +kernel
theorem dX11_clear_13 : decode cX11_clear 13 = .ok (.if_icmp .ne 5, 3) := by decide +kernel
theorem dX11_clear_16 : decode cX11_clear 16 = .ok (.iconst 0, 1) := by decide +kernel
theorem dX11_clear_17 : decode cX11_clear 17 = .ok (.ireturn, 1) := by decide +kernel
theorem dX11_clear_18 : decode cX11_clear 18 = .ok (.aload_n 0, 1) := by decide +kernel
theorem dX11_clear_19 : decode cX11_clear 19 = .ok (.invokevirtual 389, 3) := by decide +kernel
theorem dX11_clear_22 : decode cX11_clear 22 = .ok (.iconst 0, 1) := by decide +kernel
theorem dX11_clear_23 : decode cX11_clear 23 = .ok (.istore_n 3, 1) := by decide +kernel
theorem dX11_clear_24 : decode cX11_clear 24 = .ok (.iload_n 3, 1) := by decide +kernel
theorem dX11_clear_25 : decode cX11_clear 25 = .ok (.bipush 60, 2) := by decide +kernel
theorem dX11_clear_27 : decode cX11_clear 27 = .ok (.if_icmp .gt 27, 3) := by decide +kernel
theorem dX11_clear_30 : decode cX11_clear 30 = .ok (.aload_n 0, 1) := by decide +kernel
theorem dX11_clear_31 : decode cX11_clear 31 = .ok (.bipush 79, 2) := by decide +kernel
theorem dX11_clear_33 : decode cX11_clear 33 = .ok (.iload_n 2, 1) := by decide +kernel
theorem dX11_clear_34 : decode cX11_clear 34 = .ok (.invokevirtual 297, 3) := by decide +kernel
theorem dX11_clear_37 : decode cX11_clear 37 = .ok (.ifCond .eq 5, 3) := by decide +kernel
theorem dX11_clear_40 : decode cX11_clear 40 = .ok (.iload_n 3, 1) := by decide +kernel
theorem dX11_clear_41 : decode cX11_clear 41 = .ok (.ireturn, 1) := by decide +kernel
theorem dX11_clear_42 : decode cX11_clear 42 = .ok (.aload_n 0, 1) := by decide +kernel
theorem dX11_clear_43 : decode cX11_clear 43 = .ok (.bipush 79, 2) := by decide +kernel
theorem dX11_clear_45 : decode cX11_clear 45 = .ok (.invokevirtual 341, 3) := by decide +kernel
theorem dX11_clear_48 : decode cX11_clear 48 = .ok (.iinc 3 1, 3) := by decide +kernel
theorem dX11_clear_51 : decode cX11_clear 51 = .ok (.goto (-27), 3) := by decide +kernel
theorem dX11_clear_54 : decode cX11_clear 54 = .ok (.iconst (-1), 1) := by decide +kernel
theorem dX11_clear_55 : decode cX11_clear 55 = .ok (.ireturn, 1) := by decide +kernel
theorem dX11_ahead_0 : decode cX11_ahead 0 = .ok (.aload_n 0, 1) := by decide +kernel
theorem dX11_ahead_1 : decode cX11_ahead 1 = .ok (.iconst 0, 1) := by decide +kernel
theorem dX11_ahead_2 : decode cX11_ahead 2 = .ok (.putfield 99, 3) := by decide +kernel
theorem dX11_ahead_5 : decode cX11_ahead 5 = .ok (.aload_n 0, 1) := by decide +kernel
theorem dX11_ahead_6 : decode cX11_ahead 6 = .ok (.iload_n 2, 1) := by decide +kernel
theorem dX11_ahead_7 : decode cX11_ahead 7 = .ok (.iconst 1, 1) := by decide +kernel
theorem dX11_ahead_8 : decode cX11_ahead 8 = .ok (.invokevirtual 365, 3) := by decide +kernel
theorem dX11_ahead_11 : decode cX11_ahead 11 = .ok (.ifCond .eq 13, 3) := by decide +kernel
theorem dX11_ahead_14 : decode cX11_ahead 14 = .ok (.aload_n 0, 1) := by decide +kernel
theorem dX11_ahead_15 : decode cX11_ahead 15 = .ok (.iload_n 1, 1) := by decide +kernel
theorem dX11_ahead_16 : decode cX11_ahead 16 = .ok (.iconst 0, 1) := by decide +kernel
theorem dX11_ahead_17 : decode cX11_ahead 17 = .ok (.iconst 2, 1) := by decide +kernel
theorem dX11_ahead_18 : decode cX11_ahead 18 = .ok (.invokevirtual 395, 3) := by decide +kernel
theorem dX11_ahead_21 : decode cX11_ahead 21 = .ok (.ifCond .ne 5, 3) := by decide +kernel
theorem dX11_ahead_24 : decode cX11_ahead 24 = .ok (.iconst 0, 1) := by decide +kernel
theorem dX11_ahead_25 : decode cX11_ahead 25 = .ok (.ireturn, 1) := by decide +kernel
theorem dX11_ahead_26 : decode cX11_ahead 26 = .ok (.iconst 1, 1) := by decide +kernel
theorem dX11_ahead_27 : decode cX11_ahead 27 = .ok (.aload_n 0, 1) := by decide +kernel
theorem dX11_ahead_28 : decode cX11_ahead 28 = .ok (.getfield 276, 3) := by decide +kernel
theorem dX11_ahead_31 : decode cX11_ahead 31 = .ok (.ishl, 1) := by decide +kernel
theorem dX11_ahead_32 : decode cX11_ahead 32 = .ok (.iconst 1, 1) := by decide +kernel
theorem dX11_ahead_33 : decode cX11_ahead 33 = .ok (.isub, 1) := by decide +kernel
theorem dX11_ahead_34 : decode cX11_ahead 34 = .ok (.istore_n 3, 1) := by decide +kernel
theorem dX11_ahead_35 : decode cX11_ahead 35 = .ok (.aload_n 0, 1) := by decide +kernel
theorem dX11_ahead_36 : decode cX11_ahead 36 = .ok (.invokevirtual 389, 3) := by decide +kernel
theorem dX11_ahead_39 : decode cX11_ahead 39 = .ok (.iconst 0, 1) := by decide +kernel
theorem dX11_ahead_40 : decode cX11_ahead 40 = .ok (.istore 4, 2) := by decide +kernel
theorem dX11_ahead_42 : decode cX11_ahead 42 = .ok (.iload 4, 2) := by decide +kernel
theorem dX11_ahead_44 : decode cX11_ahead 44 = .ok (.iload_n 1, 1) := by decide +kernel
theorem dX11_ahead_45 : decode cX11_ahead 45 = .ok (.if_icmp .ge 22, 3) := by decide +kernel
theorem dX11_ahead_48 : decode cX11_ahead 48 = .ok (.aload_n 0, 1) := by decide +kernel
theorem dX11_ahead_49 : decode cX11_ahead 49 = .ok (.bipush 79, 2) := by decide +kernel
theorem dX11_ahead_51 : decode cX11_ahead 51 = .ok (.invokevirtual 341, 3) := by decide +kernel
theorem dX11_ahead_54 : decode cX11_ahead 54 = .ok (.iload_n 3, 1) := by decide +kernel
theorem dX11_ahead_55 : decode cX11_ahead 55 = .ok (.aload_n 0, 1) := by decide +kernel
theorem dX11_ahead_56 : decode cX11_ahead 56 = .ok (.getfield 326, 3) := by decide +kernel
theorem dX11_ahead_59 : decode cX11_ahead 59 = .ok (.iand, 1) := by decide +kernel
theorem dX11_ahead_60 : decode cX11_ahead 60 = .ok (.istore_n 3, 1) := by decide +kernel
theorem dX11_ahead_61 : decode cX11_ahead 61 = .ok (.iinc 4 1, 3) := by decide +kernel
theorem dX11_ahead_64 : decode cX11_ahead 64 = .ok (.goto (-22), 3) := by decide +kernel
theorem dX11_ahead_67 : decode cX11_ahead 67 = .ok (.iconst (-1), 1) := by decide +kernel
theorem dX11_ahead_68 : decode cX11_ahead 68 = .ok (.istore 4, 2) := by decide +kernel
theorem dX11_ahead_70 : decode cX11_ahead 70 = .ok (.iconst 0, 1) := by decide +kernel
theorem dX11_ahead_71 : decode cX11_ahead 71 = .ok (.istore 5, 2) := by decide +kernel
theorem dX11_ahead_73 : decode cX11_ahead 73 = .ok (.iload 5, 2) := by decide +kernel
theorem dX11_ahead_75 : decode cX11_ahead 75 = .ok (.bipush 48, 2) := by decide +kernel
theorem dX11_ahead_77 : decode cX11_ahead 77 = .ok (.if_icmp .ge 55, 3) := by decide +kernel
theorem dX11_ahead_80 : decode cX11_ahead 80 = .ok (.aload_n 0, 1) := by decide +kernel
theorem dX11_ahead_81 : decode cX11_ahead 81 = .ok (.iload 5, 2) := by decide +kernel
theorem dX11_ahead_83 : decode cX11_ahead 83 = .ok (.invokevirtual 332, 3) := by decide +kernel
theorem dX11_ahead_86 : decode cX11_ahead 86 = .ok (.ifCond .eq 40, 3) := by decide +kernel
theorem dX11_ahead_89 : decode cX11_ahead 89 = .ok (.aload_n 0, 1) := by decide +kernel
theorem dX11_ahead_90 : decode cX11_ahead 90 = .ok (.getfield 48, 3) := by decide +kernel
theorem dX11_ahead_93 : decode cX11_ahead 93 = .ok (.bipush 80, 2) := by decide +kernel
theorem dX11_ahead_95 : decode cX11_ahead 95 = .ok (.iload 5, 2) := by decide +kernel
theorem dX11_ahead_97 : decode cX11_ahead 97 = .ok (.iadd, 1) := by decide +kernel
theorem dX11_ahead_98 : decode cX11_ahead 98 = .ok (.iaload, 1) := by decide +kernel
theorem dX11_ahead_99 : decode cX11_ahead 99 = .ok (.iload 4, 2) := by decide +kernel
theorem dX11_ahead_101 : decode cX11_ahead 101 = .ok (.iconst (-1), 1) := by decide +kernel
theorem dX11_ahead_102 : decode cX11_ahead 102 = .ok (.if_icmp .ne 7, 3) := by decide +kernel
theorem dX11_ahead_105 : decode cX11_ahead 105 = .ok (.iconst 0, 1) := by decide +kernel
theorem dX11_ahead_106 : decode cX11_ahead 106 = .ok (.goto 13, 3) := by decide +kernel
theorem dX11_ahead_109 : decode cX11_ahead 109 = .ok (.aload_n 0, 1) := by decide +kernel
theorem dX11_ahead_110 : decode cX11_ahead 110 = .ok (.getfield 48, 3) := by decide +kernel
theorem dX11_ahead_113 : decode cX11_ahead 113 = .ok (.bipush 80, 2) := by decide +kernel
theorem dX11_ahead_115 : decode cX11_ahead 115 = .ok (.iload 4, 2) := by decide +kernel
theorem dX11_ahead_117 : decode cX11_ahead 117 = .ok (.iadd, 1) := by decide +kernel
theorem dX11_ahead_118 : decode cX11_ahead 118 = .ok (.iaload, 1) := by decide +kernel
theorem dX11_ahead_119 : decode cX11_ahead 119 = .ok (.if_icmp .le 7, 3) := by decide +kernel
theorem dX11_ahead_122 : decode cX11_ahead 122 = .ok (.iload 5, 2) := by decide +kernel
theorem dX11_ahead_124 : decode cX11_ahead 124 = .ok (.istore 4, 2) := by decide +kernel
theorem dX11_ahead_126 : decode cX11_ahead 126 = .ok (.iinc 5 1, 3) := by decide +kernel
theorem dX11_ahead_129 : decode cX11_ahead 129 = .ok (.goto (-56), 3) := by decide +kernel
theorem dX11_ahead_132 : decode cX11_ahead 132 = .ok (.iload_n 2, 1) := by decide +kernel
theorem dX11_ahead_133 : decode cX11_ahead 133 = .ok (.ifCond .ne 7, 3) := by decide +kernel
theorem dX11_ahead_136 : decode cX11_ahead 136 = .ok (.iload_n 3, 1) := by decide +kernel
theorem dX11_ahead_137 : decode cX11_ahead 137 = .ok (.goto 8, 3) := by decide +kernel
theorem dX11_ahead_140 : decode cX11_ahead 140 = .ok (.iload 4, 2) := by decide +kernel
theorem dX11_ahead_142 : decode cX11_ahead 142 = .ok (.invokestatic 371, 3) := by decide +kernel
theorem dX11_ahead_145 : decode cX11_ahead 145 = .ok (.ireturn, 1) := by decide +kernel
theorem dX11_gone_0 : decode cX11_gone 0 = .ok (.aload_n 0, 1) := by decide +kernel
theorem dX11_gone_1 : decode cX11_gone 1 = .ok (.iconst 0, 1) := by decide +kernel
theorem dX11_gone_2 : decode cX11_gone 2 = .ok (.putfield 99, 3) := by decide +kernel
theorem dX11_gone_5 : decode cX11_gone 5 = .ok (.aload_n 0, 1) := by decide +kernel
theorem dX11_gone_6 : decode cX11_gone 6 = .ok (.iload_n 1, 1) := by decide +kernel
theorem dX11_gone_7 : decode cX11_gone 7 = .ok (.invokevirtual 368, 3) := by decide +kernel
theorem dX11_gone_10 : decode cX11_gone 10 = .ok (.ifCond .eq 13, 3) := by decide +kernel
theorem dX11_gone_13 : decode cX11_gone 13 = .ok (.aload_n 0, 1) := by decide +kernel
theorem dX11_gone_14 : decode cX11_gone 14 = .ok (.iload_n 2, 1) := by decide +kernel
theorem dX11_gone_15 : decode cX11_gone 15 = .ok (.iconst 0, 1) := by decide +kernel
theorem dX11_gone_16 : decode cX11_gone 16 = .ok (.iconst 2, 1) := by decide +kernel
theorem dX11_gone_17 : decode cX11_gone 17 = .ok (.invokevirtual 395, 3) := by decide +kernel
theorem dX11_gone_20 : decode cX11_gone 20 = .ok (.ifCond .ne 5, 3) := by decide +kernel
theorem dX11_gone_23 : decode cX11_gone 23 = .ok (.iconst 0, 1) := by decide +kernel
theorem dX11_gone_24 : decode cX11_gone 24 = .ok (.ireturn, 1) := by decide +kernel
theorem dX11_gone_25 : decode cX11_gone 25 = .ok (.iconst 0, 1) := by decide +kernel
theorem dX11_gone_26 : decode cX11_gone 26 = .ok (.istore_n 3, 1) := by decide +kernel
theorem dX11_gone_27 : decode cX11_gone 27 = .ok (.aload_n 0, 1) := by decide +kernel
theorem dX11_gone_28 : decode cX11_gone 28 = .ok (.invokevirtual 389, 3) := by decide +kernel
theorem dX11_gone_31 : decode cX11_gone 31 = .ok (.iconst 0, 1) := by decide +kernel
theorem dX11_gone_32 : decode cX11_gone 32 = .ok (.istore 4, 2) := by decide +kernel
theorem dX11_gone_34 : decode cX11_gone 34 = .ok (.iload 4, 2) := by decide +kernel
theorem dX11_gone_36 : decode cX11_gone 36 = .ok (.iload_n 2, 1) := by decide +kernel
theorem dX11_gone_37 : decode cX11_gone 37 = .ok (.if_icmp .ge 24, 3) := by decide +kernel
theorem dX11_gone_40 : decode cX11_gone 40 = .ok (.aload_n 0, 1) := by decide +kernel
theorem dX11_gone_41 : decode cX11_gone 41 = .ok (.bipush 79, 2) := by decide +kernel
theorem dX11_gone_43 : decode cX11_gone 43 = .ok (.invokevirtual 341, 3) := by decide +kernel
theorem dX11_gone_46 : decode cX11_gone 46 = .ok (.iload_n 3, 1) := by decide +kernel
theorem dX11_gone_47 : decode cX11_gone 47 = .ok (.aload_n 0, 1) := by decide +kernel
theorem dX11_gone_48 : decode cX11_gone 48 = .ok (.getfield 69, 3) := by decide +kernel
theorem dX11_gone_51 : decode cX11_gone 51 = .ok (.iload_n 1, 1) := by decide +kernel
theorem dX11_gone_52 : decode cX11_gone 52 = .ok (.iaload, 1) := by decide +kernel
theorem dX11_gone_53 : decode cX11_gone 53 = .ok (.iadd, 1) := by decide +kernel
theorem dX11_gone_54 : decode cX11_gone 54 = .ok (.istore_n 3, 1) := by decide +kernel
theorem dX11_gone_55 : decode cX11_gone 55 = .ok (.iinc 4 1, 3) := by decide +kernel
theorem dX11_gone_58 : decode cX11_gone 58 = .ok (.goto (-24), 3) := by decide +kernel
theorem dX11_gone_61 : decode cX11_gone 61 = .ok (.iload_n 3, 1) := by decide +kernel
theorem dX11_gone_62 : decode cX11_gone 62 = .ok (.ireturn, 1) := by decide +kernel
theorem dX11_toClear_0 : decode cX11_toClear 0 = .ok (.iconst 0, 1) := by decide +kernel
theorem dX11_toClear_1 : decode cX11_toClear 1 = .ok (.istore_n 3, 1) := by decide +kernel
theorem dX11_toClear_2 : decode cX11_toClear 2 = .ok (.iload_n 3, 1) := by decide +kernel
theorem dX11_toClear_3 : decode cX11_toClear 3 = .ok (.bipush 48, 2) := by decide +kernel
theorem dX11_toClear_5 : decode cX11_toClear 5 = .ok (.if_icmp .ge 18, 3) := by decide +kernel
theorem dX11_toClear_8 : decode cX11_toClear 8 = .ok (.aload_n 0, 1) := by decide +kernel
theorem dX11_toClear_9 : decode cX11_toClear 9 = .ok (.getfield 72, 3) := by decide +kernel
theorem dX11_toClear_12 : decode cX11_toClear 12 = .ok (.iload_n 3, 1) := by decide +kernel
theorem dX11_toClear_13 : decode cX11_toClear 13 = .ok (.sipush 9999, 3) := by decide +kernel
theorem dX11_toClear_16 : decode cX11_toClear 16 = .ok (.iastore, 1) := by decide +kernel
theorem dX11_toClear_17 : decode cX11_toClear 17 = .ok (.iinc 3 1, 3) := by decide +kernel
theorem dX11_toClear_20 : decode cX11_toClear 20 = .ok (.goto (-18), 3) := by decide +kernel
theorem dX11_toClear_23 : decode cX11_toClear 23 = .ok (.aload_n 0, 1) := by decide +kernel
theorem dX11_toClear_24 : decode cX11_toClear 24 = .ok (.getfield 72, 3) := by decide +kernel
theorem dX11_toClear_27 : decode cX11_toClear 27 = .ok (.iload_n 1, 1) := by decide +kernel
theorem dX11_toClear_28 : decode cX11_toClear 28 = .ok (.iconst 0, 1) := by decide +kernel
theorem dX11_toClear_29 : decode cX11_toClear 29 = .ok (.iastore, 1) := by decide +kernel
theorem dX11_toClear_30 : decode cX11_toClear 30 = .ok (.iconst 1, 1) := by decide +kernel
theorem dX11_toClear_31 : decode cX11_toClear 31 = .ok (.istore_n 3, 1) := by decide +kernel
theorem dX11_toClear_32 : decode cX11_toClear 32 = .ok (.iload_n 3, 1) := by decide +kernel
theorem dX11_toClear_33 : decode cX11_toClear 33 = .ok (.ifCond .eq 134, 3) := by decide +kernel
theorem dX11_toClear_36 : decode cX11_toClear 36 = .ok (.iconst 0, 1) := by decide +kernel
theorem dX11_toClear_37 : decode cX11_toClear 37 = .ok (.istore_n 3, 1) := by decide +kernel
theorem dX11_toClear_38 : decode cX11_toClear 38 = .ok (.iconst 0, 1) := by decide +kernel
theorem dX11_toClear_39 : decode cX11_toClear 39 = .ok (.istore 4, 2) := by decide +kernel
theorem dX11_toClear_41 : decode cX11_toClear 41 = .ok (.iload 4, 2) := by decide +kernel
theorem dX11_toClear_43 : decode cX11_toClear 43 = .ok (.bipush 48, 2) := by decide +kernel
theorem dX11_toClear_45 : decode cX11_toClear 45 = .ok (.if_icmp .ge 119, 3) := by decide +kernel
theorem dX11_toClear_48 : decode cX11_toClear 48 = .ok (.iconst 0, 1) := by decide +kernel
theorem dX11_toClear_49 : decode cX11_toClear 49 = .ok (.istore 5, 2) := by decide +kernel
theorem dX11_toClear_51 : decode cX11_toClear 51 = .ok (.iload 5, 2) := by decide +kernel
theorem dX11_toClear_53 : decode cX11_toClear 53 = .ok (.iconst 4, 1) := by decide +kernel
theorem dX11_toClear_54 : decode cX11_toClear 54 = .ok (.if_icmp .ge 104, 3) := by decide +kernel
theorem dX11_toClear_57 : decode cX11_toClear 57 = .ok (.aload_n 0, 1) := by decide +kernel
theorem dX11_toClear_58 : decode cX11_toClear 58 = .ok (.getfield 72, 3) := by decide +kernel
theorem dX11_toClear_61 : decode cX11_toClear 61 = .ok (.iload 4, 2) := by decide +kernel
theorem dX11_toClear_63 : decode cX11_toClear 63 = .ok (.iaload, 1) := by decide +kernel
theorem dX11_toClear_64 : decode cX11_toClear 64 = .ok (.sipush 9999, 3) := by decide +kernel
theorem dX11_toClear_67 : decode cX11_toClear 67 = .ok (.if_icmp .ge 91, 3) := by decide +kernel
theorem dX11_toClear_70 : decode cX11_toClear 70 = .ok (.aload_n 0, 1) := by decide +kernel
theorem dX11_toClear_71 : decode cX11_toClear 71 = .ok (.iconst 0, 1) := by decide +kernel
theorem dX11_toClear_72 : decode cX11_toClear 72 = .ok (.iload 4, 2) := by decide +kernel
theorem dX11_toClear_74 : decode cX11_toClear 74 = .ok (.iload 5, 2) := by decide +kernel
theorem dX11_toClear_76 : decode cX11_toClear 76 = .ok (.invokevirtual 301, 3) := by decide +kernel
theorem dX11_toClear_79 : decode cX11_toClear 79 = .ok (.istore 6, 2) := by decide +kernel
theorem dX11_toClear_81 : decode cX11_toClear 81 = .ok (.iload 6, 2) := by decide +kernel
theorem dX11_toClear_83 : decode cX11_toClear 83 = .ok (.iconst (-1), 1) := by decide +kernel
theorem dX11_toClear_84 : decode cX11_toClear 84 = .ok (.if_icmp .ne 9, 3) := by decide +kernel
theorem dX11_toClear_87 : decode cX11_toClear 87 = .ok (.sipush 9999, 3) := by decide +kernel
theorem dX11_toClear_90 : decode cX11_toClear 90 = .ok (.goto 26, 3) := by decide +kernel
theorem dX11_toClear_93 : decode cX11_toClear 93 = .ok (.aload_n 0, 1) := by decide +kernel
theorem dX11_toClear_94 : decode cX11_toClear 94 = .ok (.getfield 72, 3) := by decide +kernel
theorem dX11_toClear_97 : decode cX11_toClear 97 = .ok (.iload 4, 2) := by decide +kernel
theorem dX11_toClear_99 : decode cX11_toClear 99 = .ok (.iaload, 1) := by decide +kernel
theorem dX11_toClear_100 : decode cX11_toClear 100 = .ok (.aload_n 0, 1) := by decide +kernel
theorem dX11_toClear_101 : decode cX11_toClear 101 = .ok (.iconst 0, 1) := by decide +kernel
theorem dX11_toClear_102 : decode cX11_toClear 102 = .ok (.iload 6, 2) := by decide +kernel
theorem dX11_toClear_104 : decode cX11_toClear 104 = .ok (.invokevirtual 297, 3) := by decide +kernel
theorem dX11_toClear_107 : decode cX11_toClear 107 = .ok (.ifCond .eq 7, 3) := by decide +kernel
theorem dX11_toClear_110 : decode cX11_toClear 110 = .ok (.iconst 0, 1) := by decide +kernel
theorem dX11_toClear_111 : decode cX11_toClear 111 = .ok (.goto 4, 3) := by decide +kernel
theorem dX11_toClear_114 : decode cX11_toClear 114 = .ok (.iconst 1, 1) := by decide +kernel
theorem dX11_toClear_115 : decode cX11_toClear 115 = .ok (.iadd, 1) := by decide +kernel
theorem dX11_toClear_116 : decode cX11_toClear 116 = .ok (.istore 7, 2) := by decide +kernel
theorem dX11_toClear_118 : decode cX11_toClear 118 = .ok (.iload 7, 2) := by decide +kernel
theorem dX11_toClear_120 : decode cX11_toClear 120 = .ok (.sipush 9999, 3) := by decide +kernel
theorem dX11_toClear_123 : decode cX11_toClear 123 = .ok (.if_icmp .eq 29, 3) := by decide +kernel
theorem dX11_toClear_126 : decode cX11_toClear 126 = .ok (.iload 7, 2) := by decide +kernel
theorem dX11_toClear_128 : decode cX11_toClear 128 = .ok (.aload_n 0, 1) := by decide +kernel
theorem dX11_toClear_129 : decode cX11_toClear 129 = .ok (.getfield 72, 3) := by decide +kernel
theorem dX11_toClear_132 : decode cX11_toClear 132 = .ok (.iload 6, 2) := by decide +kernel
theorem dX11_toClear_134 : decode cX11_toClear 134 = .ok (.iaload, 1) := by decide +kernel
theorem dX11_toClear_135 : decode cX11_toClear 135 = .ok (.if_icmp .lt 6, 3) := by decide +kernel
theorem dX11_toClear_138 : decode cX11_toClear 138 = .ok (.goto 14, 3) := by decide +kernel
theorem dX11_toClear_141 : decode cX11_toClear 141 = .ok (.aload_n 0, 1) := by decide +kernel
theorem dX11_toClear_142 : decode cX11_toClear 142 = .ok (.getfield 72, 3) := by decide +kernel
theorem dX11_toClear_145 : decode cX11_toClear 145 = .ok (.iload 6, 2) := by decide +kernel
theorem dX11_toClear_147 : decode cX11_toClear 147 = .ok (.iload 7, 2) := by decide +kernel
theorem dX11_toClear_149 : decode cX11_toClear 149 = .ok (.iastore, 1) := by decide +kernel
theorem dX11_toClear_150 : decode cX11_toClear 150 = .ok (.iconst 1, 1) := by decide +kernel
theorem dX11_toClear_151 : decode cX11_toClear 151 = .ok (.istore_n 3, 1) := by decide +kernel
theorem dX11_toClear_152 : decode cX11_toClear 152 = .ok (.iinc 5 1, 3) := by decide +kernel
theorem dX11_toClear_155 : decode cX11_toClear 155 = .ok (.goto (-104), 3) := by decide +kernel
theorem dX11_toClear_158 : decode cX11_toClear 158 = .ok (.iinc 4 1, 3) := by decide +kernel
theorem dX11_toClear_161 : decode cX11_toClear 161 = .ok (.goto (-120), 3) := by decide +kernel
theorem dX11_toClear_164 : decode cX11_toClear 164 = .ok (.goto (-132), 3) := by decide +kernel
theorem dX11_toClear_167 : decode cX11_toClear 167 = .ok (.aload_n 0, 1) := by decide +kernel
theorem dX11_toClear_168 : decode cX11_toClear 168 = .ok (.getfield 72, 3) := by decide +kernel
theorem dX11_toClear_171 : decode cX11_toClear 171 = .ok (.iload_n 2, 1) := by decide +kernel
theorem dX11_toClear_172 : decode cX11_toClear 172 = .ok (.iaload, 1) := by decide +kernel
theorem dX11_toClear_173 : decode cX11_toClear 173 = .ok (.ireturn, 1) := by decide +kernel
theorem dX11_needed_0 : decode cX11_needed 0 = .ok (.aload_n 0, 1) := by decide +kernel
theorem dX11_needed_1 : decode cX11_needed 1 = .ok (.iload_n 1, 1) := by decide +kernel
theorem dX11_needed_2 : decode cX11_needed 2 = .ok (.iload_n 2, 1) := by decide +kernel
theorem dX11_needed_3 : decode cX11_needed 3 = .ok (.invokevirtual 374, 3) := by decide +kernel
theorem dX11_needed_6 : decode cX11_needed 6 = .ok (.sipush 9999, 3) := by decide +kernel
theorem dX11_needed_9 : decode cX11_needed 9 = .ok (.if_icmp .lt 5, 3) := by decide +kernel
theorem dX11_needed_12 : decode cX11_needed 12 = .ok (.iconst 0, 1) := by decide +kernel
theorem dX11_needed_13 : decode cX11_needed 13 = .ok (.ireturn, 1) := by decide +kernel
theorem dX11_needed_14 : decode cX11_needed 14 = .ok (.iconst 0, 1) := by decide +kernel
theorem dX11_needed_15 : decode cX11_needed 15 = .ok (.istore_n 3, 1) := by decide +kernel
theorem dX11_needed_16 : decode cX11_needed 16 = .ok (.iconst 0, 1) := by decide +kernel
theorem dX11_needed_17 : decode cX11_needed 17 = .ok (.istore 4, 2) := by decide +kernel
theorem dX11_needed_19 : decode cX11_needed 19 = .ok (.iload 4, 2) := by decide +kernel
theorem dX11_needed_21 : decode cX11_needed 21 = .ok (.bipush 48, 2) := by decide +kernel
theorem dX11_needed_23 : decode cX11_needed 23 = .ok (.if_icmp .ge 69, 3) := by decide +kernel
theorem dX11_needed_26 : decode cX11_needed 26 = .ok (.aload_n 0, 1) := by decide +kernel
theorem dX11_needed_27 : decode cX11_needed 27 = .ok (.iload 4, 2) := by decide +kernel
theorem dX11_needed_29 : decode cX11_needed 29 = .ok (.invokevirtual 332, 3) := by decide +kernel
theorem dX11_needed_32 : decode cX11_needed 32 = .ok (.ifCond .eq 54, 3) := by decide +kernel
theorem dX11_needed_35 : decode cX11_needed 35 = .ok (.aload_n 0, 1) := by decide +kernel
theorem dX11_needed_36 : decode cX11_needed 36 = .ok (.iconst 0, 1) := by decide +kernel
theorem dX11_needed_37 : decode cX11_needed 37 = .ok (.iload 4, 2) := by decide +kernel
theorem dX11_needed_39 : decode cX11_needed 39 = .ok (.invokevirtual 297, 3) := by decide +kernel
theorem dX11_needed_42 : decode cX11_needed 42 = .ok (.ifCond .eq 44, 3) := by decide +kernel
theorem dX11_needed_45 : decode cX11_needed 45 = .ok (.iload 4, 2) := by decide +kernel
theorem dX11_needed_47 : decode cX11_needed 47 = .ok (.iload_n 1, 1) := by decide +kernel
theorem dX11_needed_48 : decode cX11_needed 48 = .ok (.if_icmp .eq 38, 3) := by decide +kernel
theorem dX11_needed_51 : decode cX11_needed 51 = .ok (.iload 4, 2) := by decide +kernel
theorem dX11_needed_53 : decode cX11_needed 53 = .ok (.iload_n 2, 1) := by decide +kernel
theorem dX11_needed_54 : decode cX11_needed 54 = .ok (.if_icmp .ne 6, 3) := by decide +kernel
theorem dX11_needed_57 : decode cX11_needed 57 = .ok (.goto 29, 3) := by decide +kernel
theorem dX11_needed_60 : decode cX11_needed 60 = .ok (.aload_n 0, 1) := by decide +kernel
theorem dX11_needed_61 : decode cX11_needed 61 = .ok (.iload 4, 2) := by decide +kernel
theorem dX11_needed_63 : decode cX11_needed 63 = .ok (.putfield 66, 3) := by decide +kernel
theorem dX11_needed_66 : decode cX11_needed 66 = .ok (.iload_n 3, 1) := by decide +kernel
theorem dX11_needed_67 : decode cX11_needed 67 = .ok (.aload_n 0, 1) := by decide +kernel
theorem dX11_needed_68 : decode cX11_needed 68 = .ok (.iload_n 1, 1) := by decide +kernel
theorem dX11_needed_69 : decode cX11_needed 69 = .ok (.iload_n 2, 1) := by decide +kernel
theorem dX11_needed_70 : decode cX11_needed 70 = .ok (.invokevirtual 374, 3) := by decide +kernel
theorem dX11_needed_73 : decode cX11_needed 73 = .ok (.sipush 9999, 3) := by decide +kernel
theorem dX11_needed_76 : decode cX11_needed 76 = .ok (.if_icmp .lt 7, 3) := by decide +kernel
theorem dX11_needed_79 : decode cX11_needed 79 = .ok (.iconst 1, 1) := by decide +kernel
theorem dX11_needed_80 : decode cX11_needed 80 = .ok (.goto 4, 3) := by decide +kernel
theorem dX11_needed_83 : decode cX11_needed 83 = .ok (.iconst 0, 1) := by decide +kernel
theorem dX11_needed_84 : decode cX11_needed 84 = .ok (.iadd, 1) := by decide +kernel
theorem dX11_needed_85 : decode cX11_needed 85 = .ok (.istore_n 3, 1) := by decide +kernel
theorem dX11_needed_86 : decode cX11_needed 86 = .ok (.iinc 4 1, 3) := by decide +kernel
theorem dX11_needed_89 : decode cX11_needed 89 = .ok (.goto (-70), 3) := by decide +kernel
theorem dX11_needed_92 : decode cX11_needed 92 = .ok (.aload_n 0, 1) := by decide +kernel
theorem dX11_needed_93 : decode cX11_needed 93 = .ok (.iconst (-1), 1) := by decide +kernel
theorem dX11_needed_94 : decode cX11_needed 94 = .ok (.putfield 66, 3) := by decide +kernel
theorem dX11_needed_97 : decode cX11_needed 97 = .ok (.iload_n 3, 1) := by decide +kernel
theorem dX11_needed_98 : decode cX11_needed 98 = .ok (.ireturn, 1) := by decide +kernel
theorem dX11_way_0 : decode cX11_way 0 = .ok (.aload_n 0, 1) := by decide +kernel
theorem dX11_way_1 : decode cX11_way 1 = .ok (.iconst 0, 1) := by decide +kernel
theorem dX11_way_2 : decode cX11_way 2 = .ok (.putfield 99, 3) := by decide +kernel
theorem dX11_way_5 : decode cX11_way 5 = .ok (.aload_n 0, 1) := by decide +kernel
theorem dX11_way_6 : decode cX11_way 6 = .ok (.iload_n 1, 1) := by decide +kernel
theorem dX11_way_7 : decode cX11_way 7 = .ok (.invokevirtual 380, 3) := by decide +kernel
theorem dX11_way_10 : decode cX11_way 10 = .ok (.istore 4, 2) := by decide +kernel
theorem dX11_way_12 : decode cX11_way 12 = .ok (.iload 4, 2) := by decide +kernel
theorem dX11_way_14 : decode cX11_way 14 = .ok (.iconst (-1), 1) := by decide +kernel
theorem dX11_way_15 : decode cX11_way 15 = .ok (.if_icmp .ne 7, 3) := by decide +kernel
theorem dX11_way_18 : decode cX11_way 18 = .ok (.iconst (-1), 1) := by decide +kernel
theorem dX11_way_19 : decode cX11_way 19 = .ok (.goto 8, 3) := by decide +kernel
theorem dX11_way_22 : decode cX11_way 22 = .ok (.aload_n 0, 1) := by decide +kernel
theorem dX11_way_23 : decode cX11_way 23 = .ok (.iload_n 2, 1) := by decide +kernel
theorem dX11_way_24 : decode cX11_way 24 = .ok (.invokevirtual 380, 3) := by decide +kernel
theorem dX11_way_27 : decode cX11_way 27 = .ok (.istore 5, 2) := by decide +kernel
theorem dX11_way_29 : decode cX11_way 29 = .ok (.iload 5, 2) := by decide +kernel
theorem dX11_way_31 : decode cX11_way 31 = .ok (.iconst (-1), 1) := by decide +kernel
theorem dX11_way_32 : decode cX11_way 32 = .ok (.if_icmp .eq 12, 3) := by decide +kernel
theorem dX11_way_35 : decode cX11_way 35 = .ok (.aload_n 0, 1) := by decide +kernel
theorem dX11_way_36 : decode cX11_way 36 = .ok (.iload_n 3, 1) := by decide +kernel
theorem dX11_way_37 : decode cX11_way 37 = .ok (.iconst 3, 1) := by decide +kernel
theorem dX11_way_38 : decode cX11_way 38 = .ok (.invokevirtual 365, 3) := by decide +kernel
theorem dX11_way_41 : decode cX11_way 41 = .ok (.ifCond .ne 5, 3) := by decide +kernel
theorem dX11_way_44 : decode cX11_way 44 = .ok (.iconst 0, 1) := by decide +kernel
theorem dX11_way_45 : decode cX11_way 45 = .ok (.ireturn, 1) := by decide +kernel
theorem dX11_way_46 : decode cX11_way 46 = .ok (.iload_n 3, 1) := by decide +kernel
theorem dX11_way_47 : decode cX11_way 47 = .ok (.iconst 2, 1) := by decide +kernel
theorem dX11_way_48 : decode cX11_way 48 = .ok (.if_icmp .ne 15, 3) := by decide +kernel
theorem dX11_way_51 : decode cX11_way 51 = .ok (.aload_n 0, 1) := by decide +kernel
theorem dX11_way_52 : decode cX11_way 52 = .ok (.iload 4, 2) := by decide +kernel
theorem dX11_way_54 : decode cX11_way 54 = .ok (.iload 5, 2) := by decide +kernel
theorem dX11_way_56 : decode cX11_way 56 = .ok (.invokevirtual 404, 3) := by decide +kernel
theorem dX11_way_59 : decode cX11_way 59 = .ok (.invokestatic 377, 3) := by decide +kernel
theorem dX11_way_62 : decode cX11_way 62 = .ok (.ireturn, 1) := by decide +kernel
theorem dX11_way_63 : decode cX11_way 63 = .ok (.iload_n 3, 1) := by decide +kernel
theorem dX11_way_64 : decode cX11_way 64 = .ok (.iconst 3, 1) := by decide +kernel
theorem dX11_way_65 : decode cX11_way 65 = .ok (.if_icmp .ne 12, 3) := by decide +kernel
theorem dX11_way_68 : decode cX11_way 68 = .ok (.aload_n 0, 1) := by decide +kernel
theorem dX11_way_69 : decode cX11_way 69 = .ok (.iload 4, 2) := by decide +kernel
theorem dX11_way_71 : decode cX11_way 71 = .ok (.iload 5, 2) := by decide +kernel
theorem dX11_way_73 : decode cX11_way 73 = .ok (.invokevirtual 407, 3) := by decide +kernel
theorem dX11_way_76 : decode cX11_way 76 = .ok (.ireturn, 1) := by decide +kernel
theorem dX11_way_77 : decode cX11_way 77 = .ok (.aload_n 0, 1) := by decide +kernel
theorem dX11_way_78 : decode cX11_way 78 = .ok (.iload 4, 2) := by decide +kernel
theorem dX11_way_80 : decode cX11_way 80 = .ok (.iload 5, 2) := by decide +kernel
theorem dX11_way_82 : decode cX11_way 82 = .ok (.invokevirtual 374, 3) := by decide +kernel
theorem dX11_way_85 : decode cX11_way 85 = .ok (.istore 6, 2) := by decide +kernel
theorem dX11_way_87 : decode cX11_way 87 = .ok (.iload_n 3, 1) := by decide +kernel
theorem dX11_way_88 : decode cX11_way 88 = .ok (.ifCond .ne 9, 3) := by decide +kernel
theorem dX11_way_91 : decode cX11_way 91 = .ok (.iload 6, 2) := by decide +kernel
theorem dX11_way_93 : decode cX11_way 93 = .ok (.invokestatic 377, 3) := by decide +kernel
theorem dX11_way_96 : decode cX11_way 96 = .ok (.ireturn, 1) := by decide +kernel
theorem dX11_way_97 : decode cX11_way 97 = .ok (.iload 6, 2) := by decide +kernel
theorem dX11_way_99 : decode cX11_way 99 = .ok (.ifCond .eq 11, 3) := by decide +kernel
theorem dX11_way_102 : decode cX11_way 102 = .ok (.iload 6, 2) := by decide +kernel
theorem dX11_way_104 : decode cX11_way 104 = .ok (.sipush 9999, 3) := by decide +kernel
theorem dX11_way_107 : decode cX11_way 107 = .ok (.if_icmp .lt 7, 3) := by decide +kernel
theorem dX11_way_110 : decode cX11_way 110 = .ok (.iconst (-1), 1) := by decide +kernel
theorem dX11_way_111 : decode cX11_way 111 = .ok (.goto 13, 3) := by decide +kernel
theorem dX11_way_114 : decode cX11_way 114 = .ok (.aload_n 0, 1) := by decide +kernel
theorem dX11_way_115 : decode cX11_way 115 = .ok (.iconst 0, 1) := by decide +kernel
theorem dX11_way_116 : decode cX11_way 116 = .ok (.iload 4, 2) := by decide +kernel
theorem dX11_way_118 : decode cX11_way 118 = .ok (.invokevirtual 320, 3) := by decide +kernel
theorem dX11_way_121 : decode cX11_way 121 = .ok (.invokestatic 371, 3) := by decide +kernel
theorem dX11_way_124 : decode cX11_way 124 = .ok (.ireturn, 1) := by decide +kernel
theorem dX11_ways_0 : decode cX11_ways 0 = .ok (.aload_n 0, 1) := by decide +kernel
theorem dX11_ways_1 : decode cX11_ways 1 = .ok (.iconst 0, 1) := by decide +kernel
theorem dX11_ways_2 : decode cX11_ways 2 = .ok (.putfield 99, 3) := by decide +kernel
theorem dX11_ways_5 : decode cX11_ways 5 = .ok (.aload_n 0, 1) := by decide +kernel
theorem dX11_ways_6 : decode cX11_ways 6 = .ok (.iload_n 1, 1) := by decide +kernel
theorem dX11_ways_7 : decode cX11_ways 7 = .ok (.invokevirtual 380, 3) := by decide +kernel
theorem dX11_ways_10 : decode cX11_ways 10 = .ok (.istore_n 3, 1) := by decide +kernel
theorem dX11_ways_11 : decode cX11_ways 11 = .ok (.iload_n 3, 1) := by decide +kernel
theorem dX11_ways_12 : decode cX11_ways 12 = .ok (.iconst (-1), 1) := by decide +kernel
theorem dX11_ways_13 : decode cX11_ways 13 = .ok (.if_icmp .ne 7, 3) := by decide +kernel
theorem dX11_ways_16 : decode cX11_ways 16 = .ok (.iconst (-1), 1) := by decide +kernel
theorem dX11_ways_17 : decode cX11_ways 17 = .ok (.goto 8, 3) := by decide +kernel
theorem dX11_ways_20 : decode cX11_ways 20 = .ok (.aload_n 0, 1) := by decide +kernel
theorem dX11_ways_21 : decode cX11_ways 21 = .ok (.iload_n 2, 1) := by decide +kernel
theorem dX11_ways_22 : decode cX11_ways 22 = .ok (.invokevirtual 380, 3) := by decide +kernel
theorem dX11_ways_25 : decode cX11_ways 25 = .ok (.istore 4, 2) := by decide +kernel
theorem dX11_ways_27 : decode cX11_ways 27 = .ok (.iload 4, 2) := by decide +kernel
theorem dX11_ways_29 : decode cX11_ways 29 = .ok (.iconst (-1), 1) := by decide +kernel
theorem dX11_ways_30 : decode cX11_ways 30 = .ok (.if_icmp .eq 16, 3) := by decide +kernel
theorem dX11_ways_33 : decode cX11_ways 33 = .ok (.aload_n 0, 1) := by decide +kernel
theorem dX11_ways_34 : decode cX11_ways 34 = .ok (.iload_n 3, 1) := by decide +kernel
theorem dX11_ways_35 : decode cX11_ways 35 = .ok (.iload 4, 2) := by decide +kernel
theorem dX11_ways_37 : decode cX11_ways 37 = .ok (.invokevirtual 374, 3) := by decide +kernel
theorem dX11_ways_40 : decode cX11_ways 40 = .ok (.sipush 9999, 3) := by decide +kernel
theorem dX11_ways_43 : decode cX11_ways 43 = .ok (.if_icmp .lt 5, 3) := by decide +kernel
theorem dX11_ways_46 : decode cX11_ways 46 = .ok (.iconst 0, 1) := by decide +kernel
theorem dX11_ways_47 : decode cX11_ways 47 = .ok (.ireturn, 1) := by decide +kernel
theorem dX11_ways_48 : decode cX11_ways 48 = .ok (.iconst 0, 1) := by decide +kernel
theorem dX11_ways_49 : decode cX11_ways 49 = .ok (.istore 5, 2) := by decide +kernel
theorem dX11_ways_51 : decode cX11_ways 51 = .ok (.iload 5, 2) := by decide +kernel
theorem dX11_ways_53 : decode cX11_ways 53 = .ok (.bipush 48, 2) := by decide +kernel
theorem dX11_ways_55 : decode cX11_ways 55 = .ok (.if_icmp .ge 27, 3) := by decide +kernel
theorem dX11_ways_58 : decode cX11_ways 58 = .ok (.aload_n 0, 1) := by decide +kernel
theorem dX11_ways_59 : decode cX11_ways 59 = .ok (.getfield 72, 3) := by decide +kernel
theorem dX11_ways_62 : decode cX11_ways 62 = .ok (.iload 5, 2) := by decide +kernel
theorem dX11_ways_64 : decode cX11_ways 64 = .ok (.iload 5, 2) := by decide +kernel
theorem dX11_ways_66 : decode cX11_ways 66 = .ok (.iload_n 3, 1) := by decide +kernel
theorem dX11_ways_67 : decode cX11_ways 67 = .ok (.if_icmp .ne 7, 3) := by decide +kernel
theorem dX11_ways_70 : decode cX11_ways 70 = .ok (.iconst 1, 1) := by decide +kernel
theorem dX11_ways_71 : decode cX11_ways 71 = .ok (.goto 4, 3) := by decide +kernel
theorem dX11_ways_74 : decode cX11_ways 74 = .ok (.iconst 0, 1) := by decide +kernel
theorem dX11_ways_75 : decode cX11_ways 75 = .ok (.iastore, 1) := by decide +kernel
theorem dX11_ways_76 : decode cX11_ways 76 = .ok (.iinc 5 1, 3) := by decide +kernel
theorem dX11_ways_79 : decode cX11_ways 79 = .ok (.goto (-28), 3) := by decide +kernel
theorem dX11_ways_82 : decode cX11_ways 82 = .ok (.aload_n 0, 1) := by decide +kernel
theorem dX11_ways_83 : decode cX11_ways 83 = .ok (.getfield 60, 3) := by decide +kernel
theorem dX11_ways_86 : decode cX11_ways 86 = .ok (.iload_n 3, 1) := by decide +kernel
theorem dX11_ways_87 : decode cX11_ways 87 = .ok (.iaload, 1) := by decide +kernel
theorem dX11_ways_88 : decode cX11_ways 88 = .ok (.istore 5, 2) := by decide +kernel
theorem dX11_ways_90 : decode cX11_ways 90 = .ok (.iload 5, 2) := by decide +kernel
theorem dX11_ways_92 : decode cX11_ways 92 = .ok (.ifCond .le 120, 3) := by decide +kernel
theorem dX11_ways_95 : decode cX11_ways 95 = .ok (.iconst 0, 1) := by decide +kernel
theorem dX11_ways_96 : decode cX11_ways 96 = .ok (.istore 6, 2) := by decide +kernel
theorem dX11_ways_98 : decode cX11_ways 98 = .ok (.iload 6, 2) := by decide +kernel
theorem dX11_ways_100 : decode cX11_ways 100 = .ok (.bipush 48, 2) := by decide +kernel
theorem dX11_ways_102 : decode cX11_ways 102 = .ok (.if_icmp .ge 104, 3) := by decide +kernel
theorem dX11_ways_105 : decode cX11_ways 105 = .ok (.iconst 0, 1) := by decide +kernel
theorem dX11_ways_106 : decode cX11_ways 106 = .ok (.istore 7, 2) := by decide +kernel
theorem dX11_ways_108 : decode cX11_ways 108 = .ok (.iload 7, 2) := by decide +kernel
theorem dX11_ways_110 : decode cX11_ways 110 = .ok (.iconst 4, 1) := by decide +kernel
theorem dX11_ways_111 : decode cX11_ways 111 = .ok (.if_icmp .ge 89, 3) := by decide +kernel
theorem dX11_ways_114 : decode cX11_ways 114 = .ok (.aload_n 0, 1) := by decide +kernel
theorem dX11_ways_115 : decode cX11_ways 115 = .ok (.getfield 72, 3) := by decide +kernel
theorem dX11_ways_118 : decode cX11_ways 118 = .ok (.iload 6, 2) := by decide +kernel
theorem dX11_ways_120 : decode cX11_ways 120 = .ok (.iaload, 1) := by decide +kernel
theorem dX11_ways_121 : decode cX11_ways 121 = .ok (.ifCond .le 79, 3) := by decide +kernel
theorem dX11_ways_124 : decode cX11_ways 124 = .ok (.aload_n 0, 1) := by decide +kernel
theorem dX11_ways_125 : decode cX11_ways 125 = .ok (.getfield 60, 3) := by decide +kernel
theorem dX11_ways_128 : decode cX11_ways 128 = .ok (.iload 6, 2) := by decide +kernel
theorem dX11_ways_130 : decode cX11_ways 130 = .ok (.iaload, 1) := by decide +kernel
theorem dX11_ways_131 : decode cX11_ways 131 = .ok (.iload 5, 2) := by decide +kernel
theorem dX11_ways_133 : decode cX11_ways 133 = .ok (.if_icmp .ne 67, 3) := by decide +kernel
theorem dX11_ways_136 : decode cX11_ways 136 = .ok (.aload_n 0, 1) := by decide +kernel
theorem dX11_ways_137 : decode cX11_ways 137 = .ok (.iconst 0, 1) := by decide +kernel
theorem dX11_ways_138 : decode cX11_ways 138 = .ok (.iload 6, 2) := by decide +kernel
theorem dX11_ways_140 : decode cX11_ways 140 = .ok (.iload 7, 2) := by decide +kernel
theorem dX11_ways_142 : decode cX11_ways 142 = .ok (.invokevirtual 301, 3) := by decide +kernel
theorem dX11_ways_145 : decode cX11_ways 145 = .ok (.istore 8, 2) := by decide +kernel
theorem dX11_ways_147 : decode cX11_ways 147 = .ok (.iload 8, 2) := by decide +kernel
theorem dX11_ways_149 : decode cX11_ways 149 = .ok (.iconst (-1), 1) := by decide +kernel
theorem dX11_ways_150 : decode cX11_ways 150 = .ok (.if_icmp .eq 44, 3) := by decide +kernel
theorem dX11_ways_153 : decode cX11_ways 153 = .ok (.aload_n 0, 1) := by decide +kernel
theorem dX11_ways_154 : decode cX11_ways 154 = .ok (.iconst 0, 1) := by decide +kernel
theorem dX11_ways_155 : decode cX11_ways 155 = .ok (.iload 8, 2) := by decide +kernel
theorem dX11_ways_157 : decode cX11_ways 157 = .ok (.invokevirtual 297, 3) := by decide +kernel
theorem dX11_ways_160 : decode cX11_ways 160 = .ok (.ifCond .eq 34, 3) := by decide +kernel
theorem dX11_ways_163 : decode cX11_ways 163 = .ok (.aload_n 0, 1) := by decide +kernel
theorem dX11_ways_164 : decode cX11_ways 164 = .ok (.getfield 60, 3) := by decide +kernel
theorem dX11_ways_167 : decode cX11_ways 167 = .ok (.iload 8, 2) := by decide +kernel
theorem dX11_ways_169 : decode cX11_ways 169 = .ok (.iaload, 1) := by decide +kernel
theorem dX11_ways_170 : decode cX11_ways 170 = .ok (.iload 5, 2) := by decide +kernel
theorem dX11_ways_172 : decode cX11_ways 172 = .ok (.iconst 1, 1) := by decide +kernel
theorem dX11_ways_173 : decode cX11_ways 173 = .ok (.isub, 1) := by decide +kernel
theorem dX11_ways_174 : decode cX11_ways 174 = .ok (.if_icmp .ne 20, 3) := by decide +kernel
theorem dX11_ways_177 : decode cX11_ways 177 = .ok (.aload_n 0, 1) := by decide +kernel
theorem dX11_ways_178 : decode cX11_ways 178 = .ok (.getfield 72, 3) := by decide +kernel
theorem dX11_ways_181 : decode cX11_ways 181 = .ok (.iload 8, 2) := by decide +kernel
theorem dX11_ways_183 : decode cX11_ways 183 = .ok (.dup2, 1) := by decide +kernel
theorem dX11_ways_184 : decode cX11_ways 184 = .ok (.iaload, 1) := by decide +kernel
theorem dX11_ways_185 : decode cX11_ways 185 = .ok (.aload_n 0, 1) := by decide +kernel
theorem dX11_ways_186 : decode cX11_ways 186 = .ok (.getfield 72, 3) := by decide +kernel
theorem dX11_ways_189 : decode cX11_ways 189 = .ok (.iload 6, 2) := by decide +kernel
theorem dX11_ways_191 : decode cX11_ways 191 = .ok (.iaload, 1) := by decide +kernel
theorem dX11_ways_192 : decode cX11_ways 192 = .ok (.iadd, 1) := by decide +kernel
theorem dX11_ways_193 : decode cX11_ways 193 = .ok (.iastore, 1) := by decide +kernel
theorem dX11_ways_194 : decode cX11_ways 194 = .ok (.iinc 7 1, 3) := by decide +kernel
theorem dX11_ways_197 : decode cX11_ways 197 = .ok (.goto (-89), 3) := by decide +kernel
theorem dX11_ways_200 : decode cX11_ways 200 = .ok (.iinc 6 1, 3) := by decide +kernel
theorem dX11_ways_203 : decode cX11_ways 203 = .ok (.goto (-105), 3) := by decide +kernel
theorem dX11_ways_206 : decode cX11_ways 206 = .ok (.iinc 5 (-1), 3) := by decide +kernel
theorem dX11_ways_209 : decode cX11_ways 209 = .ok (.goto (-119), 3) := by decide +kernel
theorem dX11_ways_212 : decode cX11_ways 212 = .ok (.aload_n 0, 1) := by decide +kernel
theorem dX11_ways_213 : decode cX11_ways 213 = .ok (.getfield 72, 3) := by decide +kernel
theorem dX11_ways_216 : decode cX11_ways 216 = .ok (.iload 4, 2) := by decide +kernel
theorem dX11_ways_218 : decode cX11_ways 218 = .ok (.iaload, 1) := by decide +kernel
theorem dX11_ways_219 : decode cX11_ways 219 = .ok (.ireturn, 1) := by decide +kernel
theorem dX11_reached_0 : decode cX11_reached 0 = .ok (.aload_n 0, 1) := by decide +kernel
theorem dX11_reached_1 : decode cX11_reached 1 = .ok (.iconst 0, 1) := by decide +kernel
theorem dX11_reached_2 : decode cX11_reached 2 = .ok (.putfield 99, 3) := by decide +kernel
theorem dX11_reached_5 : decode cX11_reached 5 = .ok (.aload_n 0, 1) := by decide +kernel
theorem dX11_reached_6 : decode cX11_reached 6 = .ok (.iload_n 1, 1) := by decide +kernel
theorem dX11_reached_7 : decode cX11_reached 7 = .ok (.invokevirtual 380, 3) := by decide +kernel
theorem dX11_reached_10 : decode cX11_reached 10 = .ok (.istore_n 3, 1) := by decide +kernel
theorem dX11_reached_11 : decode cX11_reached 11 = .ok (.iload_n 3, 1) := by decide +kernel
theorem dX11_reached_12 : decode cX11_reached 12 = .ok (.iconst (-1), 1) := by decide +kernel
theorem dX11_reached_13 : decode cX11_reached 13 = .ok (.if_icmp .eq 11, 3) := by decide +kernel
theorem dX11_reached_16 : decode cX11_reached 16 = .ok (.aload_n 0, 1) := by decide +kernel
theorem dX11_reached_17 : decode cX11_reached 17 = .ok (.iload_n 2, 1) := by decide +kernel
theorem dX11_reached_18 : decode cX11_reached 18 = .ok (.invokevirtual 362, 3) := by decide +kernel
theorem dX11_reached_21 : decode cX11_reached 21 = .ok (.ifCond .ne 5, 3) := by decide +kernel
theorem dX11_reached_24 : decode cX11_reached 24 = .ok (.iconst 0, 1) := by decide +kernel
theorem dX11_reached_25 : decode cX11_reached 25 = .ok (.ireturn, 1) := by decide +kernel
theorem dX11_reached_26 : decode cX11_reached 26 = .ok (.iconst 0, 1) := by decide +kernel
theorem dX11_reached_27 : decode cX11_reached 27 = .ok (.istore 4, 2) := by decide +kernel
theorem dX11_reached_29 : decode cX11_reached 29 = .ok (.iconst 0, 1) := by decide +kernel
theorem dX11_reached_30 : decode cX11_reached 30 = .ok (.istore 5, 2) := by decide +kernel
theorem dX11_reached_32 : decode cX11_reached 32 = .ok (.iload 5, 2) := by decide +kernel
theorem dX11_reached_34 : decode cX11_reached 34 = .ok (.aload_n 0, 1) := by decide +kernel
theorem dX11_reached_35 : decode cX11_reached 35 = .ok (.getfield 16, 3) := by decide +kernel
theorem dX11_reached_38 : decode cX11_reached 38 = .ok (.iload_n 2, 1) := by decide +kernel
theorem dX11_reached_39 : decode cX11_reached 39 = .ok (.iaload, 1) := by decide +kernel
theorem dX11_reached_40 : decode cX11_reached 40 = .ok (.if_icmp .ge 40, 3) := by decide +kernel
theorem dX11_reached_43 : decode cX11_reached 43 = .ok (.iload 4, 2) := by decide +kernel
theorem dX11_reached_45 : decode cX11_reached 45 = .ok (.aload_n 0, 1) := by decide +kernel
theorem dX11_reached_46 : decode cX11_reached 46 = .ok (.iload_n 3, 1) := by decide +kernel
theorem dX11_reached_47 : decode cX11_reached 47 = .ok (.bipush 8, 2) := by decide +kernel
theorem dX11_reached_49 : decode cX11_reached 49 = .ok (.iload_n 2, 1) := by decide +kernel
theorem dX11_reached_50 : decode cX11_reached 50 = .ok (.imul, 1) := by decide +kernel
theorem dX11_reached_51 : decode cX11_reached 51 = .ok (.iload 5, 2) := by decide +kernel
theorem dX11_reached_53 : decode cX11_reached 53 = .ok (.iadd, 1) := by decide +kernel
theorem dX11_reached_54 : decode cX11_reached 54 = .ok (.invokevirtual 374, 3) := by decide +kernel
theorem dX11_reached_57 : decode cX11_reached 57 = .ok (.sipush 9999, 3) := by decide +kernel
theorem dX11_reached_60 : decode cX11_reached 60 = .ok (.if_icmp .ge 10, 3) := by decide +kernel
theorem dX11_reached_63 : decode cX11_reached 63 = .ok (.iconst 1, 1) := by decide +kernel
theorem dX11_reached_64 : decode cX11_reached 64 = .ok (.iload 5, 2) := by decide +kernel
theorem dX11_reached_66 : decode cX11_reached 66 = .ok (.ishl, 1) := by decide +kernel
theorem dX11_reached_67 : decode cX11_reached 67 = .ok (.goto 4, 3) := by decide +kernel
theorem dX11_reached_70 : decode cX11_reached 70 = .ok (.iconst 0, 1) := by decide +kernel
theorem dX11_reached_71 : decode cX11_reached 71 = .ok (.ior, 1) := by decide +kernel
theorem dX11_reached_72 : decode cX11_reached 72 = .ok (.istore 4, 2) := by decide +kernel
theorem dX11_reached_74 : decode cX11_reached 74 = .ok (.iinc 5 1, 3) := by decide +kernel
theorem dX11_reached_77 : decode cX11_reached 77 = .ok (.goto (-45), 3) := by decide +kernel
theorem dX11_reached_80 : decode cX11_reached 80 = .ok (.iload 4, 2) := by decide +kernel
theorem dX11_reached_82 : decode cX11_reached 82 = .ok (.ireturn, 1) := by decide +kernel
theorem dX11_farthest_0 : decode cX11_farthest 0 = .ok (.aload_n 0, 1) := by decide +kernel
theorem dX11_farthest_1 : decode cX11_farthest 1 = .ok (.iconst 0, 1) := by decide +kernel
theorem dX11_farthest_2 : decode cX11_farthest 2 = .ok (.putfield 99, 3) := by decide +kernel
theorem dX11_farthest_5 : decode cX11_farthest 5 = .ok (.aload_n 0, 1) := by decide +kernel
theorem dX11_farthest_6 : decode cX11_farthest 6 = .ok (.iload_n 1, 1) := by decide +kernel
theorem dX11_farthest_7 : decode cX11_farthest 7 = .ok (.invokevirtual 380, 3) := by decide +kernel
theorem dX11_farthest_10 : decode cX11_farthest 10 = .ok (.istore_n 3, 1) := by decide +kernel
theorem dX11_farthest_11 : decode cX11_farthest 11 = .ok (.iload_n 3, 1) := by decide +kernel
theorem dX11_farthest_12 : decode cX11_farthest 12 = .ok (.iconst (-1), 1) := by decide +kernel
theorem dX11_farthest_13 : decode cX11_farthest 13 = .ok (.if_icmp .eq 12, 3) := by decide +kernel
theorem dX11_farthest_16 : decode cX11_farthest 16 = .ok (.aload_n 0, 1) := by decide +kernel
theorem dX11_farthest_17 : decode cX11_farthest 17 = .ok (.iload_n 2, 1) := by decide +kernel
theorem dX11_farthest_18 : decode cX11_farthest 18 = .ok (.iconst 1, 1) := by decide +kernel
theorem dX11_farthest_19 : decode cX11_farthest 19 = .ok (.invokevirtual 365, 3) := by decide +kernel
theorem dX11_farthest_22 : decode cX11_farthest 22 = .ok (.ifCond .ne 5, 3) := by decide +kernel
theorem dX11_farthest_25 : decode cX11_farthest 25 = .ok (.iconst 0, 1) := by decide +kernel
theorem dX11_farthest_26 : decode cX11_farthest 26 = .ok (.ireturn, 1) := by decide +kernel
theorem dX11_farthest_27 : decode cX11_farthest 27 = .ok (.iload_n 3, 1) := by decide +kernel
theorem dX11_farthest_28 : decode cX11_farthest 28 = .ok (.istore 4, 2) := by decide +kernel
theorem dX11_farthest_30 : decode cX11_farthest 30 = .ok (.iconst 0, 1) := by decide +kernel
theorem dX11_farthest_31 : decode cX11_farthest 31 = .ok (.istore 5, 2) := by decide +kernel
theorem dX11_farthest_33 : decode cX11_farthest 33 = .ok (.iconst 0, 1) := by decide +kernel
theorem dX11_farthest_34 : decode cX11_farthest 34 = .ok (.istore 6, 2) := by decide +kernel
theorem dX11_farthest_36 : decode cX11_farthest 36 = .ok (.iload 6, 2) := by decide +kernel
theorem dX11_farthest_38 : decode cX11_farthest 38 = .ok (.bipush 48, 2) := by decide +kernel
theorem dX11_farthest_40 : decode cX11_farthest 40 = .ok (.if_icmp .ge 59, 3) := by decide +kernel
theorem dX11_farthest_43 : decode cX11_farthest 43 = .ok (.aload_n 0, 1) := by decide +kernel
theorem dX11_farthest_44 : decode cX11_farthest 44 = .ok (.iload 6, 2) := by decide +kernel
theorem dX11_farthest_46 : decode cX11_farthest 46 = .ok (.invokevirtual 332, 3) := by decide +kernel
theorem dX11_farthest_49 : decode cX11_farthest 49 = .ok (.ifCond .eq 13, 3) := by decide +kernel
theorem dX11_farthest_52 : decode cX11_farthest 52 = .ok (.aload_n 0, 1) := by decide +kernel
theorem dX11_farthest_53 : decode cX11_farthest 53 = .ok (.iload_n 3, 1) := by decide +kernel
theorem dX11_farthest_54 : decode cX11_farthest 54 = .ok (.iload 6, 2) := by decide +kernel
theorem dX11_farthest_56 : decode cX11_farthest 56 = .ok (.invokevirtual 374, 3) := by decide +kernel
theorem dX11_farthest_59 : decode cX11_farthest 59 = .ok (.goto 6, 3) := by decide +kernel
theorem dX11_farthest_62 : decode cX11_farthest 62 = .ok (.sipush 9999, 3) := by decide +kernel
theorem dX11_farthest_65 : decode cX11_farthest 65 = .ok (.istore 7, 2) := by decide +kernel
theorem dX11_farthest_67 : decode cX11_farthest 67 = .ok (.iload 7, 2) := by decide +kernel
theorem dX11_farthest_69 : decode cX11_farthest 69 = .ok (.sipush 9999, 3) := by decide +kernel
theorem dX11_farthest_72 : decode cX11_farthest 72 = .ok (.if_icmp .ge 21, 3) := by decide +kernel
theorem dX11_farthest_75 : decode cX11_farthest 75 = .ok (.iload 7, 2) := by decide +kernel
theorem dX11_farthest_77 : decode cX11_farthest 77 = .ok (.iload 5, 2) := by decide +kernel
theorem dX11_farthest_79 : decode cX11_farthest 79 = .ok (.if_icmp .gt 6, 3) := by decide +kernel
theorem dX11_farthest_82 : decode cX11_farthest 82 = .ok (.goto 11, 3) := by decide +kernel
theorem dX11_farthest_85 : decode cX11_farthest 85 = .ok (.iload 6, 2) := by decide +kernel
theorem dX11_farthest_87 : decode cX11_farthest 87 = .ok (.istore 4, 2) := by decide +kernel
theorem dX11_farthest_89 : decode cX11_farthest 89 = .ok (.iload 7, 2) := by decide +kernel
theorem dX11_farthest_91 : decode cX11_farthest 91 = .ok (.istore 5, 2) := by decide +kernel
theorem dX11_farthest_93 : decode cX11_farthest 93 = .ok (.iinc 6 1, 3) := by decide +kernel
theorem dX11_farthest_96 : decode cX11_farthest 96 = .ok (.goto (-60), 3) := by decide +kernel
theorem dX11_farthest_99 : decode cX11_farthest 99 = .ok (.iload_n 2, 1) := by decide +kernel
theorem dX11_farthest_100 : decode cX11_farthest 100 = .ok (.ifCond .ne 11, 3) := by decide +kernel
theorem dX11_farthest_103 : decode cX11_farthest 103 = .ok (.iload 4, 2) := by decide +kernel
theorem dX11_farthest_105 : decode cX11_farthest 105 = .ok (.invokestatic 371, 3) := by decide +kernel
theorem dX11_farthest_108 : decode cX11_farthest 108 = .ok (.goto 5, 3) := by decide +kernel
theorem dX11_farthest_111 : decode cX11_farthest 111 = .ok (.iload 5, 2) := by decide +kernel
theorem dX11_farthest_113 : decode cX11_farthest 113 = .ok (.ireturn, 1) := by decide +kernel
theorem dX11_near_0 : decode cX11_near 0 = .ok (.aload_n 0, 1) := by decide +kernel
theorem dX11_near_1 : decode cX11_near 1 = .ok (.iconst 0, 1) := by decide +kernel
theorem dX11_near_2 : decode cX11_near 2 = .ok (.putfield 99, 3) := by decide +kernel
theorem dX11_near_5 : decode cX11_near 5 = .ok (.aload_n 0, 1) := by decide +kernel
theorem dX11_near_6 : decode cX11_near 6 = .ok (.iload_n 1, 1) := by decide +kernel
theorem dX11_near_7 : decode cX11_near 7 = .ok (.invokevirtual 368, 3) := by decide +kernel
theorem dX11_near_10 : decode cX11_near 10 = .ok (.ifCond .ne 5, 3) := by decide +kernel
theorem dX11_near_13 : decode cX11_near 13 = .ok (.iconst 0, 1) := by decide +kernel
theorem dX11_near_14 : decode cX11_near 14 = .ok (.ireturn, 1) := by decide +kernel
theorem dX11_near_15 : decode cX11_near 15 = .ok (.iconst (-1), 1) := by decide +kernel
theorem dX11_near_16 : decode cX11_near 16 = .ok (.istore_n 2, 1) := by decide +kernel
theorem dX11_near_17 : decode cX11_near 17 = .ok (.sipush 9999, 3) := by decide +kernel
theorem dX11_near_20 : decode cX11_near 20 = .ok (.istore_n 3, 1) := by decide +kernel
theorem dX11_near_21 : decode cX11_near 21 = .ok (.iconst 0, 1) := by decide +kernel
theorem dX11_near_22 : decode cX11_near 22 = .ok (.istore 4, 2) := by decide +kernel
theorem dX11_near_24 : decode cX11_near 24 = .ok (.iload 4, 2) := by decide +kernel
theorem dX11_near_26 : decode cX11_near 26 = .ok (.aload_n 0, 1) := by decide +kernel
theorem dX11_near_27 : decode cX11_near 27 = .ok (.getfield 276, 3) := by decide +kernel
theorem dX11_near_30 : decode cX11_near 30 = .ok (.if_icmp .ge 61, 3) := by decide +kernel
theorem dX11_near_33 : decode cX11_near 33 = .ok (.iload 4, 2) := by decide +kernel
theorem dX11_near_35 : decode cX11_near 35 = .ok (.iload_n 1, 1) := by decide +kernel
theorem dX11_near_36 : decode cX11_near 36 = .ok (.if_icmp .ne 9, 3) := by decide +kernel
theorem dX11_near_39 : decode cX11_near 39 = .ok (.sipush 9999, 3) := by decide +kernel
theorem dX11_near_42 : decode cX11_near 42 = .ok (.goto 26, 3) := by decide +kernel
theorem dX11_near_45 : decode cX11_near 45 = .ok (.aload_n 0, 1) := by decide +kernel
theorem dX11_near_46 : decode cX11_near 46 = .ok (.aload_n 0, 1) := by decide +kernel
theorem dX11_near_47 : decode cX11_near 47 = .ok (.getfield 48, 3) := by decide +kernel
theorem dX11_near_50 : decode cX11_near 50 = .ok (.bipush 55, 2) := by decide +kernel
theorem dX11_near_52 : decode cX11_near 52 = .ok (.iload_n 1, 1) := by decide +kernel
theorem dX11_near_53 : decode cX11_near 53 = .ok (.iadd, 1) := by decide +kernel
theorem dX11_near_54 : decode cX11_near 54 = .ok (.iaload, 1) := by decide +kernel
theorem dX11_near_55 : decode cX11_near 55 = .ok (.aload_n 0, 1) := by decide +kernel
theorem dX11_near_56 : decode cX11_near 56 = .ok (.getfield 48, 3) := by decide +kernel
theorem dX11_near_59 : decode cX11_near 59 = .ok (.bipush 55, 2) := by decide +kernel
theorem dX11_near_61 : decode cX11_near 61 = .ok (.iload 4, 2) := by decide +kernel
theorem dX11_near_63 : decode cX11_near 63 = .ok (.iadd, 1) := by decide +kernel
theorem dX11_near_64 : decode cX11_near 64 = .ok (.iaload, 1) := by decide +kernel
theorem dX11_near_65 : decode cX11_near 65 = .ok (.invokevirtual 374, 3) := by decide +kernel
theorem dX11_near_68 : decode cX11_near 68 = .ok (.istore 5, 2) := by decide +kernel
theorem dX11_near_70 : decode cX11_near 70 = .ok (.iload 5, 2) := by decide +kernel
theorem dX11_near_72 : decode cX11_near 72 = .ok (.iload_n 3, 1) := by decide +kernel
theorem dX11_near_73 : decode cX11_near 73 = .ok (.if_icmp .lt 6, 3) := by decide +kernel
theorem dX11_near_76 : decode cX11_near 76 = .ok (.goto 9, 3) := by decide +kernel
theorem dX11_near_79 : decode cX11_near 79 = .ok (.iload 4, 2) := by decide +kernel
theorem dX11_near_81 : decode cX11_near 81 = .ok (.istore_n 2, 1) := by decide +kernel
theorem dX11_near_82 : decode cX11_near 82 = .ok (.iload 5, 2) := by decide +kernel
theorem dX11_near_84 : decode cX11_near 84 = .ok (.istore_n 3, 1) := by decide +kernel
theorem dX11_near_85 : decode cX11_near 85 = .ok (.iinc 4 1, 3) := by decide +kernel
theorem dX11_near_88 : decode cX11_near 88 = .ok (.goto (-64), 3) := by decide +kernel
theorem dX11_near_91 : decode cX11_near 91 = .ok (.iload_n 2, 1) := by decide +kernel
theorem dX11_near_92 : decode cX11_near 92 = .ok (.ireturn, 1) := by decide +kernel
theorem dX11_gather_0 : decode cX11_gather 0 = .ok (.aload_n 0, 1) := by decide +kernel
theorem dX11_gather_1 : decode cX11_gather 1 = .ok (.iconst 0, 1) := by decide +kernel
theorem dX11_gather_2 : decode cX11_gather 2 = .ok (.putfield 99, 3) := by decide +kernel
theorem dX11_gather_5 : decode cX11_gather 5 = .ok (.aload_n 0, 1) := by decide +kernel
theorem dX11_gather_6 : decode cX11_gather 6 = .ok (.iload_n 1, 1) := by decide +kernel
theorem dX11_gather_7 : decode cX11_gather 7 = .ok (.iconst 1, 1) := by decide +kernel
theorem dX11_gather_8 : decode cX11_gather 8 = .ok (.invokevirtual 365, 3) := by decide +kernel
theorem dX11_gather_11 : decode cX11_gather 11 = .ok (.ifCond .ne 5, 3) := by decide +kernel
theorem dX11_gather_14 : decode cX11_gather 14 = .ok (.iconst 0, 1) := by decide +kernel
theorem dX11_gather_15 : decode cX11_gather 15 = .ok (.ireturn, 1) := by decide +kernel
theorem dX11_gather_16 : decode cX11_gather 16 = .ok (.iconst (-1), 1) := by decide +kernel
theorem dX11_gather_17 : decode cX11_gather 17 = .ok (.istore_n 2, 1) := by decide +kernel
theorem dX11_gather_18 : decode cX11_gather 18 = .ok (.iconst 0, 1) := by decide +kernel
theorem dX11_gather_19 : decode cX11_gather 19 = .ok (.istore_n 3, 1) := by decide +kernel
theorem dX11_gather_20 : decode cX11_gather 20 = .ok (.iconst 0, 1) := by decide +kernel
theorem dX11_gather_21 : decode cX11_gather 21 = .ok (.istore 4, 2) := by decide +kernel
theorem dX11_gather_23 : decode cX11_gather 23 = .ok (.iconst 0, 1) := by decide +kernel
theorem dX11_gather_24 : decode cX11_gather 24 = .ok (.istore 5, 2) := by decide +kernel
theorem dX11_gather_26 : decode cX11_gather 26 = .ok (.iload 5, 2) := by decide +kernel
theorem dX11_gather_28 : decode cX11_gather 28 = .ok (.bipush 48, 2) := by decide +kernel
theorem dX11_gather_30 : decode cX11_gather 30 = .ok (.if_icmp .ge 148, 3) := by decide +kernel
theorem dX11_gather_33 : decode cX11_gather 33 = .ok (.aload_n 0, 1) := by decide +kernel
theorem dX11_gather_34 : decode cX11_gather 34 = .ok (.iload 5, 2) := by decide +kernel
theorem dX11_gather_36 : decode cX11_gather 36 = .ok (.invokevirtual 332, 3) := by decide +kernel
theorem dX11_gather_39 : decode cX11_gather 39 = .ok (.ifCond .ne 6, 3) := by decide +kernel
theorem dX11_gather_42 : decode cX11_gather 42 = .ok (.goto 130, 3) := by decide +kernel
theorem dX11_gather_45 : decode cX11_gather 45 = .ok (.aload_n 0, 1) := by decide +kernel
theorem dX11_gather_46 : decode cX11_gather 46 = .ok (.iconst 0, 1) := by decide +kernel
theorem dX11_gather_47 : decode cX11_gather 47 = .ok (.iload 5, 2) := by decide +kernel
theorem dX11_gather_49 : decode cX11_gather 49 = .ok (.invokevirtual 313, 3) := by decide +kernel
theorem dX11_gather_52 : decode cX11_gather 52 = .ok (.iconst 0, 1) := by decide +kernel
theorem dX11_gather_53 : decode cX11_gather 53 = .ok (.istore 6, 2) := by decide +kernel
theorem dX11_gather_55 : decode cX11_gather 55 = .ok (.iconst 0, 1) := by decide +kernel
theorem dX11_gather_56 : decode cX11_gather 56 = .ok (.istore 7, 2) := by decide +kernel
theorem dX11_gather_58 : decode cX11_gather 58 = .ok (.iconst 0, 1) := by decide +kernel
theorem dX11_gather_59 : decode cX11_gather 59 = .ok (.istore 8, 2) := by decide +kernel
theorem dX11_gather_61 : decode cX11_gather 61 = .ok (.iload 8, 2) := by decide +kernel
theorem dX11_gather_63 : decode cX11_gather 63 = .ok (.aload_n 0, 1) := by decide +kernel
theorem dX11_gather_64 : decode cX11_gather 64 = .ok (.getfield 276, 3) := by decide +kernel
theorem dX11_gather_67 : decode cX11_gather 67 = .ok (.if_icmp .ge 63, 3) := by decide +kernel
theorem dX11_gather_70 : decode cX11_gather 70 = .ok (.aload_n 0, 1) := by decide +kernel
theorem dX11_gather_71 : decode cX11_gather 71 = .ok (.getfield 60, 3) := by decide +kernel
theorem dX11_gather_74 : decode cX11_gather 74 = .ok (.aload_n 0, 1) := by decide +kernel
theorem dX11_gather_75 : decode cX11_gather 75 = .ok (.getfield 48, 3) := by decide +kernel
theorem dX11_gather_78 : decode cX11_gather 78 = .ok (.bipush 55, 2) := by decide +kernel
theorem dX11_gather_80 : decode cX11_gather 80 = .ok (.iload 8, 2) := by decide +kernel
theorem dX11_gather_82 : decode cX11_gather 82 = .ok (.iadd, 1) := by decide +kernel
theorem dX11_gather_83 : decode cX11_gather 83 = .ok (.iaload, 1) := by decide +kernel
theorem dX11_gather_84 : decode cX11_gather 84 = .ok (.iaload, 1) := by decide +kernel
theorem dX11_gather_85 : decode cX11_gather 85 = .ok (.istore 9, 2) := by decide +kernel
theorem dX11_gather_87 : decode cX11_gather 87 = .ok (.iload 6, 2) := by decide +kernel
theorem dX11_gather_89 : decode cX11_gather 89 = .ok (.iload 9, 2) := by decide +kernel
theorem dX11_gather_91 : decode cX11_gather 91 = .ok (.sipush 9999, 3) := by decide +kernel
theorem dX11_gather_94 : decode cX11_gather 94 = .ok (.if_icmp .ge 7, 3) := by decide +kernel
theorem dX11_gather_97 : decode cX11_gather 97 = .ok (.iconst 1, 1) := by decide +kernel
theorem dX11_gather_98 : decode cX11_gather 98 = .ok (.goto 4, 3) := by decide +kernel
theorem dX11_gather_101 : decode cX11_gather 101 = .ok (.iconst 0, 1) := by decide +kernel
theorem dX11_gather_102 : decode cX11_gather 102 = .ok (.iadd, 1) := by decide +kernel
theorem dX11_gather_103 : decode cX11_gather 103 = .ok (.istore 6, 2) := by decide +kernel
theorem dX11_gather_105 : decode cX11_gather 105 = .ok (.iload 7, 2) := by decide +kernel
theorem dX11_gather_107 : decode cX11_gather 107 = .ok (.iload 9, 2) := by decide +kernel
theorem dX11_gather_109 : decode cX11_gather 109 = .ok (.sipush 9999, 3) := by decide +kernel
theorem dX11_gather_112 : decode cX11_gather 112 = .ok (.if_icmp .ge 8, 3) := by decide +kernel
theorem dX11_gather_115 : decode cX11_gather 115 = .ok (.iload 9, 2) := by decide +kernel
theorem dX11_gather_117 : decode cX11_gather 117 = .ok (.goto 4, 3) := by decide +kernel
theorem dX11_gather_120 : decode cX11_gather 120 = .ok (.iconst 0, 1) := by decide +kernel
theorem dX11_gather_121 : decode cX11_gather 121 = .ok (.iadd, 1) := by decide +kernel
theorem dX11_gather_122 : decode cX11_gather 122 = .ok (.istore 7, 2) := by decide +kernel
theorem dX11_gather_124 : decode cX11_gather 124 = .ok (.iinc 8 1, 3) := by decide +kernel
theorem dX11_gather_127 : decode cX11_gather 127 = .ok (.goto (-66), 3) := by decide +kernel
theorem dX11_gather_130 : decode cX11_gather 130 = .ok (.iload 6, 2) := by decide +kernel
theorem dX11_gather_132 : decode cX11_gather 132 = .ok (.iload_n 3, 1) := by decide +kernel
theorem dX11_gather_133 : decode cX11_gather 133 = .ok (.if_icmp .lt 39, 3) := by decide +kernel
theorem dX11_gather_136 : decode cX11_gather 136 = .ok (.iload 6, 2) := by decide +kernel
theorem dX11_gather_138 : decode cX11_gather 138 = .ok (.ifCond .eq 34, 3) := by decide +kernel
theorem dX11_gather_141 : decode cX11_gather 141 = .ok (.iload 6, 2) := by decide +kernel
theorem dX11_gather_143 : decode cX11_gather 143 = .ok (.iload_n 3, 1) := by decide +kernel
theorem dX11_gather_144 : decode cX11_gather 144 = .ok (.if_icmp .ne 18, 3) := by decide +kernel
theorem dX11_gather_147 : decode cX11_gather 147 = .ok (.iload_n 2, 1) := by decide +kernel
theorem dX11_gather_148 : decode cX11_gather 148 = .ok (.iconst (-1), 1) := by decide +kernel
theorem dX11_gather_149 : decode cX11_gather 149 = .ok (.if_icmp .eq 13, 3) := by decide +kernel
theorem dX11_gather_152 : decode cX11_gather 152 = .ok (.iload 7, 2) := by decide +kernel
theorem dX11_gather_154 : decode cX11_gather 154 = .ok (.iload 4, 2) := by decide +kernel
theorem dX11_gather_156 : decode cX11_gather 156 = .ok (.if_icmp .lt 6, 3) := by decide +kernel
theorem dX11_gather_159 : decode cX11_gather 159 = .ok (.goto 13, 3) := by decide +kernel
theorem dX11_gather_162 : decode cX11_gather 162 = .ok (.iload 5, 2) := by decide +kernel
theorem dX11_gather_164 : decode cX11_gather 164 = .ok (.istore_n 2, 1) := by decide +kernel
theorem dX11_gather_165 : decode cX11_gather 165 = .ok (.iload 6, 2) := by decide +kernel
theorem dX11_gather_167 : decode cX11_gather 167 = .ok (.istore_n 3, 1) := by decide +kernel
theorem dX11_gather_168 : decode cX11_gather 168 = .ok (.iload 7, 2) := by decide +kernel
theorem dX11_gather_170 : decode cX11_gather 170 = .ok (.istore 4, 2) := by decide +kernel
theorem dX11_gather_172 : decode cX11_gather 172 = .ok (.iinc 5 1, 3) := by decide +kernel
theorem dX11_gather_175 : decode cX11_gather 175 = .ok (.goto (-149), 3) := by decide +kernel
theorem dX11_gather_178 : decode cX11_gather 178 = .ok (.iload_n 1, 1) := by decide +kernel
theorem dX11_gather_179 : decode cX11_gather 179 = .ok (.ifCond .ne 10, 3) := by decide +kernel
theorem dX11_gather_182 : decode cX11_gather 182 = .ok (.iload_n 2, 1) := by decide +kernel
theorem dX11_gather_183 : decode cX11_gather 183 = .ok (.invokestatic 371, 3) := by decide +kernel
theorem dX11_gather_186 : decode cX11_gather 186 = .ok (.goto 14, 3) := by decide +kernel
theorem dX11_gather_189 : decode cX11_gather 189 = .ok (.iload_n 2, 1) := by decide +kernel
theorem dX11_gather_190 : decode cX11_gather 190 = .ok (.iconst (-1), 1) := by decide +kernel
theorem dX11_gather_191 : decode cX11_gather 191 = .ok (.if_icmp .ne 7, 3) := by decide +kernel
theorem dX11_gather_194 : decode cX11_gather 194 = .ok (.iconst (-1), 1) := by decide +kernel
theorem dX11_gather_195 : decode cX11_gather 195 = .ok (.goto 5, 3) := by decide +kernel
theorem dX11_gather_198 : decode cX11_gather 198 = .ok (.iload 4, 2) := by decide +kernel
theorem dX11_gather_200 : decode cX11_gather 200 = .ok (.ireturn, 1) := by decide +kernel
theorem dX11_takes_0 : decode cX11_takes 0 = .ok (.sipush 10000, 3) := by decide +kernel
theorem dX11_takes_3 : decode cX11_takes 3 = .ok (.aload_n 0, 1) := by decide +kernel
theorem dX11_takes_4 : decode cX11_takes 4 = .ok (.getfield 75, 3) := by decide +kernel
theorem dX11_takes_7 : decode cX11_takes 7 = .ok (.bipush 6, 2) := by decide +kernel
theorem dX11_takes_9 : decode cX11_takes 9 = .ok (.iload_n 1, 1) := by decide +kernel
theorem dX11_takes_10 : decode cX11_takes 10 = .ok (.imul, 1) := by decide +kernel
theorem dX11_takes_11 : decode cX11_takes 11 = .ok (.iload_n 2, 1) := by decide +kernel
theorem dX11_takes_12 : decode cX11_takes 12 = .ok (.iadd, 1) := by decide +kernel
theorem dX11_takes_13 : decode cX11_takes 13 = .ok (.iaload, 1) := by decide +kernel
theorem dX11_takes_14 : decode cX11_takes 14 = .ok (.isub, 1) := by decide +kernel
theorem dX11_takes_15 : decode cX11_takes 15 = .ok (.aload_n 0, 1) := by decide +kernel
theorem dX11_takes_16 : decode cX11_takes 16 = .ok (.getfield 78, 3) := by decide +kernel
theorem dX11_takes_19 : decode cX11_takes 19 = .ok (.bipush 64, 2) := by decide +kernel
theorem dX11_takes_21 : decode cX11_takes 21 = .ok (.iload_n 1, 1) := by decide +kernel
theorem dX11_takes_22 : decode cX11_takes 22 = .ok (.iconst 1, 1) := by decide +kernel
theorem dX11_takes_23 : decode cX11_takes 23 = .ok (.iadd, 1) := by decide +kernel
theorem dX11_takes_24 : decode cX11_takes 24 = .ok (.imul, 1) := by decide +kernel
theorem dX11_takes_25 : decode cX11_takes 25 = .ok (.iload_n 3, 1) := by decide +kernel
theorem dX11_takes_26 : decode cX11_takes 26 = .ok (.iconst 1, 1) := by decide +kernel
theorem dX11_takes_27 : decode cX11_takes 27 = .ok (.iload_n 2, 1) := by decide +kernel
theorem dX11_takes_28 : decode cX11_takes 28 = .ok (.ishl, 1) := by decide +kernel
theorem dX11_takes_29 : decode cX11_takes 29 = .ok (.ior, 1) := by decide +kernel
theorem dX11_takes_30 : decode cX11_takes 30 = .ok (.iadd, 1) := by decide +kernel
theorem dX11_takes_31 : decode cX11_takes 31 = .ok (.iaload, 1) := by decide +kernel
theorem dX11_takes_32 : decode cX11_takes 32 = .ok (.iadd, 1) := by decide +kernel
theorem dX11_takes_33 : decode cX11_takes 33 = .ok (.ireturn, 1) := by decide +kernel
theorem dX11_canTake_0 : decode cX11_canTake 0 = .ok (.iload_n 3, 1) := by decide +kernel
theorem dX11_canTake_1 : decode cX11_canTake 1 = .ok (.iload_n 2, 1) := by decide +kernel
theorem dX11_canTake_2 : decode cX11_canTake 2 = .ok (.ishr, 1) := by decide +kernel
theorem dX11_canTake_3 : decode cX11_canTake 3 = .ok (.iconst 1, 1) := by decide +kernel
theorem dX11_canTake_4 : decode cX11_canTake 4 = .ok (.iand, 1) := by decide +kernel
theorem dX11_canTake_5 : decode cX11_canTake 5 = .ok (.ifCond .ne 24, 3) := by decide +kernel
theorem dX11_canTake_8 : decode cX11_canTake 8 = .ok (.aload_n 0, 1) := by decide +kernel
theorem dX11_canTake_9 : decode cX11_canTake 9 = .ok (.getfield 75, 3) := by decide +kernel
theorem dX11_canTake_12 : decode cX11_canTake 12 = .ok (.bipush 6, 2) := by decide +kernel
theorem dX11_canTake_14 : decode cX11_canTake 14 = .ok (.iload_n 1, 1) := by decide +kernel
theorem dX11_canTake_15 : decode cX11_canTake 15 = .ok (.imul, 1) := by decide +kernel
theorem dX11_canTake_16 : decode cX11_canTake 16 = .ok (.iload_n 2, 1) := by decide +kernel
theorem dX11_canTake_17 : decode cX11_canTake 17 = .ok (.iadd, 1) := by decide +kernel
theorem dX11_canTake_18 : decode cX11_canTake 18 = .ok (.iaload, 1) := by decide +kernel
theorem dX11_canTake_19 : decode cX11_canTake 19 = .ok (.sipush 9999, 3) := by decide +kernel
theorem dX11_canTake_22 : decode cX11_canTake 22 = .ok (.if_icmp .ge 7, 3) := by decide +kernel
theorem dX11_canTake_25 : decode cX11_canTake 25 = .ok (.iconst 1, 1) := by decide +kernel
theorem dX11_canTake_26 : decode cX11_canTake 26 = .ok (.goto 4, 3) := by decide +kernel
theorem dX11_canTake_29 : decode cX11_canTake 29 = .ok (.iconst 0, 1) := by decide +kernel
theorem dX11_canTake_30 : decode cX11_canTake 30 = .ok (.ireturn, 1) := by decide +kernel
theorem dX11_laysErrands_0 : decode cX11_laysErrands 0 = .ok (.iconst 0, 1) := by decide +kernel
theorem dX11_laysErrands_1 : decode cX11_laysErrands 1 = .ok (.istore_n 1, 1) := by decide +kernel
theorem dX11_laysErrands_2 : decode cX11_laysErrands 2 = .ok (.iload_n 1, 1) := by decide +kernel
theorem dX11_laysErrands_3 : decode cX11_laysErrands 3 = .ok (.aload_n 0, 1) := by decide +kernel
theorem dX11_laysErrands_4 : decode cX11_laysErrands 4 = .ok (.getfield 276, 3) := by decide +kernel
theorem dX11_laysErrands_7 : decode cX11_laysErrands 7 = .ok (.if_icmp .ge 96, 3) := by decide +kernel
theorem dX11_laysErrands_10 : decode cX11_laysErrands 10 = .ok (.aload_n 0, 1) := by decide +kernel
theorem dX11_laysErrands_11 : decode cX11_laysErrands 11 = .ok (.getfield 48, 3) := by decide +kernel
theorem dX11_laysErrands_14 : decode cX11_laysErrands 14 = .ok (.bipush 61, 2) := by decide +kernel
theorem dX11_laysErrands_16 : decode cX11_laysErrands 16 = .ok (.iload_n 1, 1) := by decide +kernel
theorem dX11_laysErrands_17 : decode cX11_laysErrands 17 = .ok (.iadd, 1) := by decide +kernel
theorem dX11_laysErrands_18 : decode cX11_laysErrands 18 = .ok (.iaload, 1) := by decide +kernel
theorem dX11_laysErrands_19 : decode cX11_laysErrands 19 = .ok (.iconst (-1), 1) := by decide +kernel
theorem dX11_laysErrands_20 : decode cX11_laysErrands 20 = .ok (.if_icmp .eq 17, 3) := by decide +kernel
theorem dX11_laysErrands_23 : decode cX11_laysErrands 23 = .ok (.aload_n 0, 1) := by decide +kernel
theorem dX11_laysErrands_24 : decode cX11_laysErrands 24 = .ok (.iconst 0, 1) := by decide +kernel
theorem dX11_laysErrands_25 : decode cX11_laysErrands 25 = .ok (.aload_n 0, 1) := by decide +kernel
theorem dX11_laysErrands_26 : decode cX11_laysErrands 26 = .ok (.getfield 48, 3) := by decide +kernel
theorem dX11_laysErrands_29 : decode cX11_laysErrands 29 = .ok (.bipush 61, 2) := by decide +kernel
theorem dX11_laysErrands_31 : decode cX11_laysErrands 31 = .ok (.iload_n 1, 1) := by decide +kernel
theorem dX11_laysErrands_32 : decode cX11_laysErrands 32 = .ok (.iadd, 1) := by decide +kernel
theorem dX11_laysErrands_33 : decode cX11_laysErrands 33 = .ok (.iaload, 1) := by decide +kernel
theorem dX11_laysErrands_34 : decode cX11_laysErrands 34 = .ok (.invokevirtual 313, 3) := by decide +kernel
theorem dX11_laysErrands_37 : decode cX11_laysErrands 37 = .ok (.iconst 0, 1) := by decide +kernel
theorem dX11_laysErrands_38 : decode cX11_laysErrands 38 = .ok (.istore_n 2, 1) := by decide +kernel
theorem dX11_laysErrands_39 : decode cX11_laysErrands 39 = .ok (.iload_n 2, 1) := by decide +kernel
theorem dX11_laysErrands_40 : decode cX11_laysErrands 40 = .ok (.aload_n 0, 1) := by decide +kernel
theorem dX11_laysErrands_41 : decode cX11_laysErrands 41 = .ok (.getfield 276, 3) := by decide +kernel
theorem dX11_laysErrands_44 : decode cX11_laysErrands 44 = .ok (.if_icmp .ge 53, 3) := by decide +kernel
theorem dX11_laysErrands_47 : decode cX11_laysErrands 47 = .ok (.aload_n 0, 1) := by decide +kernel
theorem dX11_laysErrands_48 : decode cX11_laysErrands 48 = .ok (.getfield 75, 3) := by decide +kernel
theorem dX11_laysErrands_51 : decode cX11_laysErrands 51 = .ok (.bipush 6, 2) := by decide +kernel
theorem dX11_laysErrands_53 : decode cX11_laysErrands 53 = .ok (.iload_n 2, 1) := by decide +kernel
theorem dX11_laysErrands_54 : decode cX11_laysErrands 54 = .ok (.imul, 1) := by decide +kernel
theorem dX11_laysErrands_55 : decode cX11_laysErrands 55 = .ok (.iload_n 1, 1) := by decide +kernel
theorem dX11_laysErrands_56 : decode cX11_laysErrands 56 = .ok (.iadd, 1) := by decide +kernel
theorem dX11_laysErrands_57 : decode cX11_laysErrands 57 = .ok (.aload_n 0, 1) := by decide +kernel
theorem dX11_laysErrands_58 : decode cX11_laysErrands 58 = .ok (.getfield 48, 3) := by decide +kernel
theorem dX11_laysErrands_61 : decode cX11_laysErrands 61 = .ok (.bipush 61, 2) := by decide +kernel
theorem dX11_laysErrands_63 : decode cX11_laysErrands 63 = .ok (.iload_n 1, 1) := by decide +kernel
theorem dX11_laysErrands_64 : decode cX11_laysErrands 64 = .ok (.iadd, 1) := by decide +kernel
theorem dX11_laysErrands_65 : decode cX11_laysErrands 65 = .ok (.iaload, 1) := by decide +kernel
theorem dX11_laysErrands_66 : decode cX11_laysErrands 66 = .ok (.iconst (-1), 1) := by decide +kernel
theorem dX11_laysErrands_67 : decode cX11_laysErrands 67 = .ok (.if_icmp .ne 9, 3) := by decide +kernel
theorem dX11_laysErrands_70 : decode cX11_laysErrands 70 = .ok (.sipush 9999, 3) := by decide +kernel
theorem dX11_laysErrands_73 : decode cX11_laysErrands 73 = .ok (.goto 17, 3) := by decide +kernel
theorem dX11_laysErrands_76 : decode cX11_laysErrands 76 = .ok (.aload_n 0, 1) := by decide +kernel
theorem dX11_laysErrands_77 : decode cX11_laysErrands 77 = .ok (.getfield 60, 3) := by decide +kernel
theorem dX11_laysErrands_80 : decode cX11_laysErrands 80 = .ok (.aload_n 0, 1) := by decide +kernel
theorem dX11_laysErrands_81 : decode cX11_laysErrands 81 = .ok (.getfield 48, 3) := by decide +kernel
theorem dX11_laysErrands_84 : decode cX11_laysErrands 84 = .ok (.bipush 55, 2) := by decide +kernel
theorem dX11_laysErrands_86 : decode cX11_laysErrands 86 = .ok (.iload_n 2, 1) := by decide +kernel
theorem dX11_laysErrands_87 : decode cX11_laysErrands 87 = .ok (.iadd, 1) := by decide +kernel
theorem dX11_laysErrands_88 : decode cX11_laysErrands 88 = .ok (.iaload, 1) := by decide +kernel
theorem dX11_laysErrands_89 : decode cX11_laysErrands 89 = .ok (.iaload, 1) := by decide +kernel
theorem dX11_laysErrands_90 : decode cX11_laysErrands 90 = .ok (.iastore, 1) := by decide +kernel
theorem dX11_laysErrands_91 : decode cX11_laysErrands 91 = .ok (.iinc 2 1, 3) := by decide +kernel
theorem dX11_laysErrands_94 : decode cX11_laysErrands 94 = .ok (.goto (-55), 3) := by decide +kernel
theorem dX11_laysErrands_97 : decode cX11_laysErrands 97 = .ok (.iinc 1 1, 3) := by decide +kernel
theorem dX11_laysErrands_100 : decode cX11_laysErrands 100 = .ok (.goto (-98), 3) := by decide +kernel
theorem dX11_laysErrands_103 : decode cX11_laysErrands 103 = .ok (.iconst 0, 1) := by decide +kernel
theorem dX11_laysErrands_104 : decode cX11_laysErrands 104 = .ok (.istore_n 1, 1) := by decide +kernel
theorem dX11_laysErrands_105 : decode cX11_laysErrands 105 = .ok (.iload_n 1, 1) := by decide +kernel
theorem dX11_laysErrands_106 : decode cX11_laysErrands 106 = .ok (.bipush 64, 2) := by decide +kernel
theorem dX11_laysErrands_108 : decode cX11_laysErrands 108 = .ok (.if_icmp .ge 24, 3) := by decide +kernel
theorem dX11_laysErrands_111 : decode cX11_laysErrands 111 = .ok (.aload_n 0, 1) := by decide +kernel
theorem dX11_laysErrands_112 : decode cX11_laysErrands 112 = .ok (.getfield 78, 3) := by decide +kernel
theorem dX11_laysErrands_115 : decode cX11_laysErrands 115 = .ok (.bipush 64, 2) := by decide +kernel
theorem dX11_laysErrands_117 : decode cX11_laysErrands 117 = .ok (.aload_n 0, 1) := by decide +kernel
theorem dX11_laysErrands_118 : decode cX11_laysErrands 118 = .ok (.getfield 276, 3) := by decide +kernel
theorem dX11_laysErrands_121 : decode cX11_laysErrands 121 = .ok (.imul, 1) := by decide +kernel
theorem dX11_laysErrands_122 : decode cX11_laysErrands 122 = .ok (.iload_n 1, 1) := by decide +kernel
theorem dX11_laysErrands_123 : decode cX11_laysErrands 123 = .ok (.iadd, 1) := by decide +kernel
theorem dX11_laysErrands_124 : decode cX11_laysErrands 124 = .ok (.iconst 0, 1) := by decide +kernel
theorem dX11_laysErrands_125 : decode cX11_laysErrands 125 = .ok (.iastore, 1) := by decide +kernel
theorem dX11_laysErrands_126 : decode cX11_laysErrands 126 = .ok (.iinc 1 1, 3) := by decide +kernel
theorem dX11_laysErrands_129 : decode cX11_laysErrands 129 = .ok (.goto (-24), 3) := by decide +kernel
theorem dX11_laysErrands_132 : decode cX11_laysErrands 132 = .ok (.aload_n 0, 1) := by decide +kernel
theorem dX11_laysErrands_133 : decode cX11_laysErrands 133 = .ok (.getfield 276, 3) := by decide +kernel
theorem dX11_laysErrands_136 : decode cX11_laysErrands 136 = .ok (.iconst 1, 1) := by decide +kernel
theorem dX11_laysErrands_137 : decode cX11_laysErrands 137 = .ok (.isub, 1) := by decide +kernel
theorem dX11_laysErrands_138 : decode cX11_laysErrands 138 = .ok (.istore_n 1, 1) := by decide +kernel
theorem dX11_laysErrands_139 : decode cX11_laysErrands 139 = .ok (.iload_n 1, 1) := by decide +kernel
theorem dX11_laysErrands_140 : decode cX11_laysErrands 140 = .ok (.ifCond .lt 103, 3) := by decide +kernel
theorem dX11_laysErrands_143 : decode cX11_laysErrands 143 = .ok (.iconst 0, 1) := by decide +kernel
theorem dX11_laysErrands_144 : decode cX11_laysErrands 144 = .ok (.istore_n 2, 1) := by decide +kernel
theorem dX11_laysErrands_145 : decode cX11_laysErrands 145 = .ok (.iload_n 2, 1) := by decide +kernel
theorem dX11_laysErrands_146 : decode cX11_laysErrands 146 = .ok (.iconst 1, 1) := by decide +kernel
theorem dX11_laysErrands_147 : decode cX11_laysErrands 147 = .ok (.aload_n 0, 1) := by decide +kernel
theorem dX11_laysErrands_148 : decode cX11_laysErrands 148 = .ok (.getfield 276, 3) := by decide +kernel
theorem dX11_laysErrands_151 : decode cX11_laysErrands 151 = .ok (.ishl, 1) := by decide +kernel
theorem dX11_laysErrands_152 : decode cX11_laysErrands 152 = .ok (.if_icmp .ge 85, 3) := by decide +kernel
theorem dX11_laysErrands_155 : decode cX11_laysErrands 155 = .ok (.aload_n 0, 1) := by decide +kernel
theorem dX11_laysErrands_156 : decode cX11_laysErrands 156 = .ok (.getfield 78, 3) := by decide +kernel
theorem dX11_laysErrands_159 : decode cX11_laysErrands 159 = .ok (.bipush 64, 2) := by decide +kernel
theorem dX11_laysErrands_161 : decode cX11_laysErrands 161 = .ok (.iload_n 1, 1) := by decide +kernel
theorem dX11_laysErrands_162 : decode cX11_laysErrands 162 = .ok (.iconst 1, 1) := by decide +kernel
theorem dX11_laysErrands_163 : decode cX11_laysErrands 163 = .ok (.iadd, 1) := by decide +kernel
theorem dX11_laysErrands_164 : decode cX11_laysErrands 164 = .ok (.imul, 1) := by decide +kernel
theorem dX11_laysErrands_165 : decode cX11_laysErrands 165 = .ok (.iload_n 2, 1) := by decide +kernel
theorem dX11_laysErrands_166 : decode cX11_laysErrands 166 = .ok (.iadd, 1) := by decide +kernel
theorem dX11_laysErrands_167 : decode cX11_laysErrands 167 = .ok (.iaload, 1) := by decide +kernel
theorem dX11_laysErrands_168 : decode cX11_laysErrands 168 = .ok (.istore_n 3, 1) := by decide +kernel
theorem dX11_laysErrands_169 : decode cX11_laysErrands 169 = .ok (.iconst 0, 1) := by decide +kernel
theorem dX11_laysErrands_170 : decode cX11_laysErrands 170 = .ok (.istore 4, 2) := by decide +kernel
theorem dX11_laysErrands_172 : decode cX11_laysErrands 172 = .ok (.iload 4, 2) := by decide +kernel
theorem dX11_laysErrands_174 : decode cX11_laysErrands 174 = .ok (.aload_n 0, 1) := by decide +kernel
theorem dX11_laysErrands_175 : decode cX11_laysErrands 175 = .ok (.getfield 276, 3) := by decide +kernel
theorem dX11_laysErrands_178 : decode cX11_laysErrands 178 = .ok (.if_icmp .ge 41, 3) := by decide +kernel
theorem dX11_laysErrands_181 : decode cX11_laysErrands 181 = .ok (.aload_n 0, 1) := by decide +kernel
theorem dX11_laysErrands_182 : decode cX11_laysErrands 182 = .ok (.iload_n 1, 1) := by decide +kernel
theorem dX11_laysErrands_183 : decode cX11_laysErrands 183 = .ok (.iload 4, 2) := by decide +kernel
theorem dX11_laysErrands_185 : decode cX11_laysErrands 185 = .ok (.iload_n 2, 1) := by decide +kernel
theorem dX11_laysErrands_186 : decode cX11_laysErrands 186 = .ok (.invokevirtual 410, 3) := by decide +kernel
theorem dX11_laysErrands_189 : decode cX11_laysErrands 189 = .ok (.ifCond .eq 24, 3) := by decide +kernel
theorem dX11_laysErrands_192 : decode cX11_laysErrands 192 = .ok (.aload_n 0, 1) := by decide +kernel
theorem dX11_laysErrands_193 : decode cX11_laysErrands 193 = .ok (.iload_n 1, 1) := by decide +kernel
theorem dX11_laysErrands_194 : decode cX11_laysErrands 194 = .ok (.iload 4, 2) := by decide +kernel
theorem dX11_laysErrands_196 : decode cX11_laysErrands 196 = .ok (.iload_n 2, 1) := by decide +kernel
theorem dX11_laysErrands_197 : decode cX11_laysErrands 197 = .ok (.invokevirtual 413, 3) := by decide +kernel
theorem dX11_laysErrands_200 : decode cX11_laysErrands 200 = .ok (.iload_n 3, 1) := by decide +kernel
theorem dX11_laysErrands_201 : decode cX11_laysErrands 201 = .ok (.if_icmp .le 12, 3) := by decide +kernel
theorem dX11_laysErrands_204 : decode cX11_laysErrands 204 = .ok (.aload_n 0, 1) := by decide +kernel
theorem dX11_laysErrands_205 : decode cX11_laysErrands 205 = .ok (.iload_n 1, 1) := by decide +kernel
theorem dX11_laysErrands_206 : decode cX11_laysErrands 206 = .ok (.iload 4, 2) := by decide +kernel
theorem dX11_laysErrands_208 : decode cX11_laysErrands 208 = .ok (.iload_n 2, 1) := by decide +kernel
theorem dX11_laysErrands_209 : decode cX11_laysErrands 209 = .ok (.invokevirtual 413, 3) := by decide +kernel
theorem dX11_laysErrands_212 : decode cX11_laysErrands 212 = .ok (.istore_n 3, 1) := by decide +kernel
theorem dX11_laysErrands_213 : decode cX11_laysErrands 213 = .ok (.iinc 4 1, 3) := by decide +kernel
theorem dX11_laysErrands_216 : decode cX11_laysErrands 216 = .ok (.goto (-44), 3) := by decide +kernel
theorem dX11_laysErrands_219 : decode cX11_laysErrands 219 = .ok (.aload_n 0, 1) := by decide +kernel
theorem dX11_laysErrands_220 : decode cX11_laysErrands 220 = .ok (.getfield 78, 3) := by decide +kernel
theorem dX11_laysErrands_223 : decode cX11_laysErrands 223 = .ok (.bipush 64, 2) := by decide +kernel
theorem dX11_laysErrands_225 : decode cX11_laysErrands 225 = .ok (.iload_n 1, 1) := by decide +kernel
theorem dX11_laysErrands_226 : decode cX11_laysErrands 226 = .ok (.imul, 1) := by decide +kernel
theorem dX11_laysErrands_227 : decode cX11_laysErrands 227 = .ok (.iload_n 2, 1) := by decide +kernel
theorem dX11_laysErrands_228 : decode cX11_laysErrands 228 = .ok (.iadd, 1) := by decide +kernel
theorem dX11_laysErrands_229 : decode cX11_laysErrands 229 = .ok (.iload_n 3, 1) := by decide +kernel
theorem dX11_laysErrands_230 : decode cX11_laysErrands 230 = .ok (.iastore, 1) := by decide +kernel
theorem dX11_laysErrands_231 : decode cX11_laysErrands 231 = .ok (.iinc 2 1, 3) := by decide +kernel
theorem dX11_laysErrands_234 : decode cX11_laysErrands 234 = .ok (.goto (-89), 3) := by decide +kernel
theorem dX11_laysErrands_237 : decode cX11_laysErrands 237 = .ok (.iinc 1 (-1), 3) := by decide +kernel
theorem dX11_laysErrands_240 : decode cX11_laysErrands 240 = .ok (.goto (-101), 3) := by decide +kernel
theorem dX11_laysErrands_243 : decode cX11_laysErrands 243 = .ok (.return_, 1) := by decide +kernel
theorem dX11_errands_0 : decode cX11_errands 0 = .ok (.aload_n 0, 1) := by decide +kernel
theorem dX11_errands_1 : decode cX11_errands 1 = .ok (.iconst 0, 1) := by decide +kernel
theorem dX11_errands_2 : decode cX11_errands 2 = .ok (.putfield 99, 3) := by decide +kernel
theorem dX11_errands_5 : decode cX11_errands 5 = .ok (.aload_n 0, 1) := by decide +kernel
theorem dX11_errands_6 : decode cX11_errands 6 = .ok (.iload_n 1, 1) := by decide +kernel
theorem dX11_errands_7 : decode cX11_errands 7 = .ok (.iconst 1, 1) := by decide +kernel
theorem dX11_errands_8 : decode cX11_errands 8 = .ok (.invokevirtual 365, 3) := by decide +kernel
theorem dX11_errands_11 : decode cX11_errands 11 = .ok (.ifCond .ne 5, 3) := by decide +kernel
theorem dX11_errands_14 : decode cX11_errands 14 = .ok (.iconst 0, 1) := by decide +kernel
theorem dX11_errands_15 : decode cX11_errands 15 = .ok (.ireturn, 1) := by decide +kernel
theorem dX11_errands_16 : decode cX11_errands 16 = .ok (.aload_n 0, 1) := by decide +kernel
theorem dX11_errands_17 : decode cX11_errands 17 = .ok (.invokevirtual 416, 3) := by decide +kernel
theorem dX11_errands_20 : decode cX11_errands 20 = .ok (.aload_n 0, 1) := by decide +kernel
theorem dX11_errands_21 : decode cX11_errands 21 = .ok (.getfield 78, 3) := by decide +kernel
theorem dX11_errands_24 : decode cX11_errands 24 = .ok (.iconst 0, 1) := by decide +kernel
theorem dX11_errands_25 : decode cX11_errands 25 = .ok (.iaload, 1) := by decide +kernel
theorem dX11_errands_26 : decode cX11_errands 26 = .ok (.sipush 9999, 3) := by decide +kernel
theorem dX11_errands_29 : decode cX11_errands 29 = .ok (.iadd, 1) := by decide +kernel
theorem dX11_errands_30 : decode cX11_errands 30 = .ok (.sipush 10000, 3) := by decide +kernel
theorem dX11_errands_33 : decode cX11_errands 33 = .ok (.idiv, 1) := by decide +kernel
theorem dX11_errands_34 : decode cX11_errands 34 = .ok (.istore_n 2, 1) := by decide +kernel
theorem dX11_errands_35 : decode cX11_errands 35 = .ok (.iload_n 1, 1) := by decide +kernel
theorem dX11_errands_36 : decode cX11_errands 36 = .ok (.ifCond .ne 7, 3) := by decide +kernel
theorem dX11_errands_39 : decode cX11_errands 39 = .ok (.iload_n 2, 1) := by decide +kernel
theorem dX11_errands_40 : decode cX11_errands 40 = .ok (.goto 15, 3) := by decide +kernel
theorem dX11_errands_43 : decode cX11_errands 43 = .ok (.sipush 10000, 3) := by decide +kernel
theorem dX11_errands_46 : decode cX11_errands 46 = .ok (.iload_n 2, 1) := by decide +kernel
theorem dX11_errands_47 : decode cX11_errands 47 = .ok (.imul, 1) := by decide +kernel
theorem dX11_errands_48 : decode cX11_errands 48 = .ok (.aload_n 0, 1) := by decide +kernel
theorem dX11_errands_49 : decode cX11_errands 49 = .ok (.getfield 78, 3) := by decide +kernel
theorem dX11_errands_52 : decode cX11_errands 52 = .ok (.iconst 0, 1) := by decide +kernel
theorem dX11_errands_53 : decode cX11_errands 53 = .ok (.iaload, 1) := by decide +kernel
theorem dX11_errands_54 : decode cX11_errands 54 = .ok (.isub, 1) := by decide +kernel
theorem dX11_errands_55 : decode cX11_errands 55 = .ok (.ireturn, 1) := by decide +kernel
theorem dX11_errand_0 : decode cX11_errand 0 = .ok (.aload_n 0, 1) := by decide +kernel
theorem dX11_errand_1 : decode cX11_errand 1 = .ok (.iconst 0, 1) := by decide +kernel
theorem dX11_errand_2 : decode cX11_errand 2 = .ok (.putfield 99, 3) := by decide +kernel
theorem dX11_errand_5 : decode cX11_errand 5 = .ok (.aload_n 0, 1) := by decide +kernel
theorem dX11_errand_6 : decode cX11_errand 6 = .ok (.iload_n 1, 1) := by decide +kernel
theorem dX11_errand_7 : decode cX11_errand 7 = .ok (.invokevirtual 368, 3) := by decide +kernel
theorem dX11_errand_10 : decode cX11_errand 10 = .ok (.ifCond .ne 5, 3) := by decide +kernel
theorem dX11_errand_13 : decode cX11_errand 13 = .ok (.iconst 0, 1) := by decide +kernel
theorem dX11_errand_14 : decode cX11_errand 14 = .ok (.ireturn, 1) := by decide +kernel
theorem dX11_errand_15 : decode cX11_errand 15 = .ok (.aload_n 0, 1) := by decide +kernel
theorem dX11_errand_16 : decode cX11_errand 16 = .ok (.invokevirtual 416, 3) := by decide +kernel
theorem dX11_errand_19 : decode cX11_errand 19 = .ok (.iconst 0, 1) := by decide +kernel
theorem dX11_errand_20 : decode cX11_errand 20 = .ok (.istore_n 2, 1) := by decide +kernel
theorem dX11_errand_21 : decode cX11_errand 21 = .ok (.iconst (-1), 1) := by decide +kernel
theorem dX11_errand_22 : decode cX11_errand 22 = .ok (.istore_n 3, 1) := by decide +kernel
theorem dX11_errand_23 : decode cX11_errand 23 = .ok (.iconst 0, 1) := by decide +kernel
theorem dX11_errand_24 : decode cX11_errand 24 = .ok (.istore 4, 2) := by decide +kernel
theorem dX11_errand_26 : decode cX11_errand 26 = .ok (.iload 4, 2) := by decide +kernel
theorem dX11_errand_28 : decode cX11_errand 28 = .ok (.iload_n 1, 1) := by decide +kernel
theorem dX11_errand_29 : decode cX11_errand 29 = .ok (.if_icmp .gt 80, 3) := by decide +kernel
theorem dX11_errand_32 : decode cX11_errand 32 = .ok (.iconst (-1), 1) := by decide +kernel
theorem dX11_errand_33 : decode cX11_errand 33 = .ok (.istore_n 3, 1) := by decide +kernel
theorem dX11_errand_34 : decode cX11_errand 34 = .ok (.aload_n 0, 1) := by decide +kernel
theorem dX11_errand_35 : decode cX11_errand 35 = .ok (.getfield 276, 3) := by decide +kernel
theorem dX11_errand_38 : decode cX11_errand 38 = .ok (.iconst 1, 1) := by decide +kernel
theorem dX11_errand_39 : decode cX11_errand 39 = .ok (.isub, 1) := by decide +kernel
theorem dX11_errand_40 : decode cX11_errand 40 = .ok (.istore 5, 2) := by decide +kernel
theorem dX11_errand_42 : decode cX11_errand 42 = .ok (.iload 5, 2) := by decide +kernel
theorem dX11_errand_44 : decode cX11_errand 44 = .ok (.ifCond .lt 48, 3) := by decide +kernel
theorem dX11_errand_47 : decode cX11_errand 47 = .ok (.aload_n 0, 1) := by decide +kernel
theorem dX11_errand_48 : decode cX11_errand 48 = .ok (.iload 4, 2) := by decide +kernel
theorem dX11_errand_50 : decode cX11_errand 50 = .ok (.iload 5, 2) := by decide +kernel
theorem dX11_errand_52 : decode cX11_errand 52 = .ok (.iload_n 2, 1) := by decide +kernel
theorem dX11_errand_53 : decode cX11_errand 53 = .ok (.invokevirtual 410, 3) := by decide +kernel
theorem dX11_errand_56 : decode cX11_errand 56 = .ok (.ifCond .eq 30, 3) := by decide +kernel
theorem dX11_errand_59 : decode cX11_errand 59 = .ok (.aload_n 0, 1) := by decide +kernel
theorem dX11_errand_60 : decode cX11_errand 60 = .ok (.iload 4, 2) := by decide +kernel
theorem dX11_errand_62 : decode cX11_errand 62 = .ok (.iload 5, 2) := by decide +kernel
theorem dX11_errand_64 : decode cX11_errand 64 = .ok (.iload_n 2, 1) := by decide +kernel
theorem dX11_errand_65 : decode cX11_errand 65 = .ok (.invokevirtual 413, 3) := by decide +kernel
theorem dX11_errand_68 : decode cX11_errand 68 = .ok (.aload_n 0, 1) := by decide +kernel
theorem dX11_errand_69 : decode cX11_errand 69 = .ok (.getfield 78, 3) := by decide +kernel
theorem dX11_errand_72 : decode cX11_errand 72 = .ok (.bipush 64, 2) := by decide +kernel
theorem dX11_errand_74 : decode cX11_errand 74 = .ok (.iload 4, 2) := by decide +kernel
theorem dX11_errand_76 : decode cX11_errand 76 = .ok (.imul, 1) := by decide +kernel
theorem dX11_errand_77 : decode cX11_errand 77 = .ok (.iload_n 2, 1) := by decide +kernel
theorem dX11_errand_78 : decode cX11_errand 78 = .ok (.iadd, 1) := by decide +kernel
theorem dX11_errand_79 : decode cX11_errand 79 = .ok (.iaload, 1) := by decide +kernel
theorem dX11_errand_80 : decode cX11_errand 80 = .ok (.if_icmp .ne 6, 3) := by decide +kernel
theorem dX11_errand_83 : decode cX11_errand 83 = .ok (.iload 5, 2) := by decide +kernel
theorem dX11_errand_85 : decode cX11_errand 85 = .ok (.istore_n 3, 1) := by decide +kernel
theorem dX11_errand_86 : decode cX11_errand 86 = .ok (.iinc 5 (-1), 3) := by decide +kernel
theorem dX11_errand_89 : decode cX11_errand 89 = .ok (.goto (-47), 3) := by decide +kernel
theorem dX11_errand_92 : decode cX11_errand 92 = .ok (.iload_n 3, 1) := by decide +kernel
theorem dX11_errand_93 : decode cX11_errand 93 = .ok (.iconst (-1), 1) := by decide +kernel
theorem dX11_errand_94 : decode cX11_errand 94 = .ok (.if_icmp .eq 9, 3) := by decide +kernel
theorem dX11_errand_97 : decode cX11_errand 97 = .ok (.iload_n 2, 1) := by decide +kernel
theorem dX11_errand_98 : decode cX11_errand 98 = .ok (.iconst 1, 1) := by decide +kernel
theorem dX11_errand_99 : decode cX11_errand 99 = .ok (.iload_n 3, 1) := by decide +kernel
theorem dX11_errand_100 : decode cX11_errand 100 = .ok (.ishl, 1) := by decide +kernel
theorem dX11_errand_101 : decode cX11_errand 101 = .ok (.ior, 1) := by decide +kernel
theorem dX11_errand_102 : decode cX11_errand 102 = .ok (.istore_n 2, 1) := by decide +kernel
theorem dX11_errand_103 : decode cX11_errand 103 = .ok (.iinc 4 1, 3) := by decide +kernel
theorem dX11_errand_106 : decode cX11_errand 106 = .ok (.goto (-80), 3) := by decide +kernel
theorem dX11_errand_109 : decode cX11_errand 109 = .ok (.iload_n 3, 1) := by decide +kernel
theorem dX11_errand_110 : decode cX11_errand 110 = .ok (.ireturn, 1) := by decide +kernel
theorem dX11_see_0 : decode cX11_see 0 = .ok (.aload_n 0, 1) := by decide +kernel
theorem dX11_see_1 : decode cX11_see 1 = .ok (.iconst 0, 1) := by decide +kernel
theorem dX11_see_2 : decode cX11_see 2 = .ok (.putfield 99, 3) := by decide +kernel
theorem dX11_see_5 : decode cX11_see 5 = .ok (.aload_n 0, 1) := by decide +kernel
theorem dX11_see_6 : decode cX11_see 6 = .ok (.iload_n 1, 1) := by decide +kernel
theorem dX11_see_7 : decode cX11_see 7 = .ok (.invokevirtual 368, 3) := by decide +kernel
theorem dX11_see_10 : decode cX11_see 10 = .ok (.ifCond .eq 11, 3) := by decide +kernel
theorem dX11_see_13 : decode cX11_see 13 = .ok (.aload_n 0, 1) := by decide +kernel
theorem dX11_see_14 : decode cX11_see 14 = .ok (.iload_n 2, 1) := by decide +kernel
theorem dX11_see_15 : decode cX11_see 15 = .ok (.invokevirtual 362, 3) := by decide +kernel
theorem dX11_see_18 : decode cX11_see 18 = .ok (.ifCond .ne 5, 3) := by decide +kernel
theorem dX11_see_21 : decode cX11_see 21 = .ok (.iconst 0, 1) := by decide +kernel
theorem dX11_see_22 : decode cX11_see 22 = .ok (.ireturn, 1) := by decide +kernel
theorem dX11_see_23 : decode cX11_see 23 = .ok (.aload_n 0, 1) := by decide +kernel
theorem dX11_see_24 : decode cX11_see 24 = .ok (.getfield 286, 3) := by decide +kernel
theorem dX11_see_27 : decode cX11_see 27 = .ok (.bipush 8, 2) := by decide +kernel
theorem dX11_see_29 : decode cX11_see 29 = .ok (.if_icmp .eq 13, 3) := by decide +kernel
theorem dX11_see_32 : decode cX11_see 32 = .ok (.iload_n 3, 1) := by decide +kernel
theorem dX11_see_33 : decode cX11_see 33 = .ok (.iconst 0, 1) := by decide +kernel
theorem dX11_see_34 : decode cX11_see 34 = .ok (.bipush 20, 2) := by decide +kernel
theorem dX11_see_36 : decode cX11_see 36 = .ok (.invokestatic 344, 3) := by decide +kernel
theorem dX11_see_39 : decode cX11_see 39 = .ok (.ifCond .ne 9, 3) := by decide +kernel
theorem dX11_see_42 : decode cX11_see 42 = .ok (.aload_n 0, 1) := by decide +kernel
theorem dX11_see_43 : decode cX11_see 43 = .ok (.iconst 2, 1) := by decide +kernel
theorem dX11_see_44 : decode cX11_see 44 = .ok (.invokevirtual 383, 3) := by decide +kernel
theorem dX11_see_47 : decode cX11_see 47 = .ok (.ireturn, 1) := by decide +kernel
theorem dX11_see_48 : decode cX11_see 48 = .ok (.aload_n 0, 1) := by decide +kernel
theorem dX11_see_49 : decode cX11_see 49 = .ok (.getfield 81, 3) := by decide +kernel
theorem dX11_see_52 : decode cX11_see 52 = .ok (.iconst 3, 1) := by decide +kernel
theorem dX11_see_53 : decode cX11_see 53 = .ok (.aload_n 0, 1) := by decide +kernel
theorem dX11_see_54 : decode cX11_see 54 = .ok (.getfield 286, 3) := by decide +kernel
theorem dX11_see_57 : decode cX11_see 57 = .ok (.imul, 1) := by decide +kernel
theorem dX11_see_58 : decode cX11_see 58 = .ok (.iload_n 1, 1) := by decide +kernel
theorem dX11_see_59 : decode cX11_see 59 = .ok (.iastore, 1) := by decide +kernel
theorem dX11_see_60 : decode cX11_see 60 = .ok (.aload_n 0, 1) := by decide +kernel
theorem dX11_see_61 : decode cX11_see 61 = .ok (.getfield 81, 3) := by decide +kernel
theorem dX11_see_64 : decode cX11_see 64 = .ok (.iconst 3, 1) := by decide +kernel
theorem dX11_see_65 : decode cX11_see 65 = .ok (.aload_n 0, 1) := by decide +kernel
theorem dX11_see_66 : decode cX11_see 66 = .ok (.getfield 286, 3) := by decide +kernel
theorem dX11_see_69 : decode cX11_see 69 = .ok (.imul, 1) := by decide +kernel
theorem dX11_see_70 : decode cX11_see 70 = .ok (.iconst 1, 1) := by decide +kernel
theorem dX11_see_71 : decode cX11_see 71 = .ok (.iadd, 1) := by decide +kernel
theorem dX11_see_72 : decode cX11_see 72 = .ok (.iload_n 2, 1) := by decide +kernel
theorem dX11_see_73 : decode cX11_see 73 = .ok (.iastore, 1) := by decide +kernel
theorem dX11_see_74 : decode cX11_see 74 = .ok (.aload_n 0, 1) := by decide +kernel
theorem dX11_see_75 : decode cX11_see 75 = .ok (.getfield 81, 3) := by decide +kernel
theorem dX11_see_78 : decode cX11_see 78 = .ok (.iconst 3, 1) := by decide +kernel
theorem dX11_see_79 : decode cX11_see 79 = .ok (.aload_n 0, 1) := by decide +kernel
theorem dX11_see_80 : decode cX11_see 80 = .ok (.getfield 286, 3) := by decide +kernel
theorem dX11_see_83 : decode cX11_see 83 = .ok (.imul, 1) := by decide +kernel
theorem dX11_see_84 : decode cX11_see 84 = .ok (.iconst 2, 1) := by decide +kernel
theorem dX11_see_85 : decode cX11_see 85 = .ok (.iadd, 1) := by decide +kernel
theorem dX11_see_86 : decode cX11_see 86 = .ok (.iload_n 3, 1) := by decide +kernel
theorem dX11_see_87 : decode cX11_see 87 = .ok (.iastore, 1) := by decide +kernel
theorem dX11_see_88 : decode cX11_see 88 = .ok (.aload_n 0, 1) := by decide +kernel
theorem dX11_see_89 : decode cX11_see 89 = .ok (.dup, 1) := by decide +kernel
theorem dX11_see_90 : decode cX11_see 90 = .ok (.getfield 286, 3) := by decide +kernel
theorem dX11_see_93 : decode cX11_see 93 = .ok (.iconst 1, 1) := by decide +kernel
theorem dX11_see_94 : decode cX11_see 94 = .ok (.iadd, 1) := by decide +kernel
theorem dX11_see_95 : decode cX11_see 95 = .ok (.putfield 286, 3) := by decide +kernel
theorem dX11_see_98 : decode cX11_see 98 = .ok (.aload_n 0, 1) := by decide +kernel
theorem dX11_see_99 : decode cX11_see 99 = .ok (.getfield 286, 3) := by decide +kernel
theorem dX11_see_102 : decode cX11_see 102 = .ok (.ireturn, 1) := by decide +kernel
theorem dX11_forget_0 : decode cX11_forget 0 = .ok (.aload_n 0, 1) := by decide +kernel
theorem dX11_forget_1 : decode cX11_forget 1 = .ok (.iconst 0, 1) := by decide +kernel
theorem dX11_forget_2 : decode cX11_forget 2 = .ok (.putfield 99, 3) := by decide +kernel
theorem dX11_forget_5 : decode cX11_forget 5 = .ok (.aload_n 0, 1) := by decide +kernel
theorem dX11_forget_6 : decode cX11_forget 6 = .ok (.iconst 0, 1) := by decide +kernel
theorem dX11_forget_7 : decode cX11_forget 7 = .ok (.putfield 286, 3) := by decide +kernel
theorem dX11_forget_10 : decode cX11_forget 10 = .ok (.return_, 1) := by decide +kernel
theorem dX11_isSeen_0 : decode cX11_isSeen 0 = .ok (.iconst 0, 1) := by decide +kernel
theorem dX11_isSeen_1 : decode cX11_isSeen 1 = .ok (.istore_n 1, 1) := by decide +kernel
theorem dX11_isSeen_2 : decode cX11_isSeen 2 = .ok (.iload_n 1, 1) := by decide +kernel
theorem dX11_isSeen_3 : decode cX11_isSeen 3 = .ok (.bipush 20, 2) := by decide +kernel
theorem dX11_isSeen_5 : decode cX11_isSeen 5 = .ok (.if_icmp .gt 117, 3) := by decide +kernel
theorem dX11_isSeen_8 : decode cX11_isSeen 8 = .ok (.iconst 0, 1) := by decide +kernel
theorem dX11_isSeen_9 : decode cX11_isSeen 9 = .ok (.istore_n 2, 1) := by decide +kernel
theorem dX11_isSeen_10 : decode cX11_isSeen 10 = .ok (.iload_n 2, 1) := by decide +kernel
theorem dX11_isSeen_11 : decode cX11_isSeen 11 = .ok (.aload_n 0, 1) := by decide +kernel
theorem dX11_isSeen_12 : decode cX11_isSeen 12 = .ok (.getfield 286, 3) := by decide +kernel
theorem dX11_isSeen_15 : decode cX11_isSeen 15 = .ok (.if_icmp .ge 58, 3) := by decide +kernel
theorem dX11_isSeen_18 : decode cX11_isSeen 18 = .ok (.aload_n 0, 1) := by decide +kernel
theorem dX11_isSeen_19 : decode cX11_isSeen 19 = .ok (.getfield 81, 3) := by decide +kernel
theorem dX11_isSeen_22 : decode cX11_isSeen 22 = .ok (.iconst 3, 1) := by decide +kernel
theorem dX11_isSeen_23 : decode cX11_isSeen 23 = .ok (.iload_n 2, 1) := by decide +kernel
theorem dX11_isSeen_24 : decode cX11_isSeen 24 = .ok (.imul, 1) := by decide +kernel
theorem dX11_isSeen_25 : decode cX11_isSeen 25 = .ok (.iconst 2, 1) := by decide +kernel
theorem dX11_isSeen_26 : decode cX11_isSeen 26 = .ok (.iadd, 1) := by decide +kernel
theorem dX11_isSeen_27 : decode cX11_isSeen 27 = .ok (.iaload, 1) := by decide +kernel
theorem dX11_isSeen_28 : decode cX11_isSeen 28 = .ok (.iload_n 1, 1) := by decide +kernel
theorem dX11_isSeen_29 : decode cX11_isSeen 29 = .ok (.if_icmp .ne 38, 3) := by decide +kernel
theorem dX11_isSeen_32 : decode cX11_isSeen 32 = .ok (.aload_n 0, 1) := by decide +kernel
theorem dX11_isSeen_33 : decode cX11_isSeen 33 = .ok (.getfield 48, 3) := by decide +kernel
theorem dX11_isSeen_36 : decode cX11_isSeen 36 = .ok (.sipush 134, 3) := by decide +kernel
theorem dX11_isSeen_39 : decode cX11_isSeen 39 = .ok (.aload_n 0, 1) := by decide +kernel
theorem dX11_isSeen_40 : decode cX11_isSeen 40 = .ok (.getfield 81, 3) := by decide +kernel
theorem dX11_isSeen_43 : decode cX11_isSeen 43 = .ok (.iconst 3, 1) := by decide +kernel
theorem dX11_isSeen_44 : decode cX11_isSeen 44 = .ok (.iload_n 2, 1) := by decide +kernel
theorem dX11_isSeen_45 : decode cX11_isSeen 45 = .ok (.imul, 1) := by decide +kernel
theorem dX11_isSeen_46 : decode cX11_isSeen 46 = .ok (.iaload, 1) := by decide +kernel
theorem dX11_isSeen_47 : decode cX11_isSeen 47 = .ok (.iadd, 1) := by decide +kernel
theorem dX11_isSeen_48 : decode cX11_isSeen 48 = .ok (.iaload, 1) := by decide +kernel
theorem dX11_isSeen_49 : decode cX11_isSeen 49 = .ok (.bipush 8, 2) := by decide +kernel
theorem dX11_isSeen_51 : decode cX11_isSeen 51 = .ok (.idiv, 1) := by decide +kernel
theorem dX11_isSeen_52 : decode cX11_isSeen 52 = .ok (.aload_n 0, 1) := by decide +kernel
theorem dX11_isSeen_53 : decode cX11_isSeen 53 = .ok (.getfield 81, 3) := by decide +kernel
theorem dX11_isSeen_56 : decode cX11_isSeen 56 = .ok (.iconst 3, 1) := by decide +kernel
theorem dX11_isSeen_57 : decode cX11_isSeen 57 = .ok (.iload_n 2, 1) := by decide +kernel
theorem dX11_isSeen_58 : decode cX11_isSeen 58 = .ok (.imul, 1) := by decide +kernel
theorem dX11_isSeen_59 : decode cX11_isSeen 59 = .ok (.iconst 1, 1) := by decide +kernel
theorem dX11_isSeen_60 : decode cX11_isSeen 60 = .ok (.iadd, 1) := by decide +kernel
theorem dX11_isSeen_61 : decode cX11_isSeen 61 = .ok (.iaload, 1) := by decide +kernel
theorem dX11_isSeen_62 : decode cX11_isSeen 62 = .ok (.if_icmp .eq 5, 3) := by decide +kernel
theorem dX11_isSeen_65 : decode cX11_isSeen 65 = .ok (.iconst 0, 1) := by decide +kernel
theorem dX11_isSeen_66 : decode cX11_isSeen 66 = .ok (.ireturn, 1) := by decide +kernel
theorem dX11_isSeen_67 : decode cX11_isSeen 67 = .ok (.iinc 2 1, 3) := by decide +kernel
theorem dX11_isSeen_70 : decode cX11_isSeen 70 = .ok (.goto (-60), 3) := by decide +kernel
theorem dX11_isSeen_73 : decode cX11_isSeen 73 = .ok (.iload_n 1, 1) := by decide +kernel
theorem dX11_isSeen_74 : decode cX11_isSeen 74 = .ok (.iconst 4, 1) := by decide +kernel
theorem dX11_isSeen_75 : decode cX11_isSeen 75 = .ok (.if_icmp .ne 35, 3) := by decide +kernel
theorem dX11_isSeen_78 : decode cX11_isSeen 78 = .ok (.iconst 0, 1) := by decide +kernel
theorem dX11_isSeen_79 : decode cX11_isSeen 79 = .ok (.istore_n 2, 1) := by decide +kernel
theorem dX11_isSeen_80 : decode cX11_isSeen 80 = .ok (.iload_n 2, 1) := by decide +kernel
theorem dX11_isSeen_81 : decode cX11_isSeen 81 = .ok (.aload_n 0, 1) := by decide +kernel
theorem dX11_isSeen_82 : decode cX11_isSeen 82 = .ok (.getfield 276, 3) := by decide +kernel
theorem dX11_isSeen_85 : decode cX11_isSeen 85 = .ok (.if_icmp .ge 25, 3) := by decide +kernel
theorem dX11_isSeen_88 : decode cX11_isSeen 88 = .ok (.aload_n 0, 1) := by decide +kernel
theorem dX11_isSeen_89 : decode cX11_isSeen 89 = .ok (.getfield 84, 3) := by decide +kernel
theorem dX11_isSeen_92 : decode cX11_isSeen 92 = .ok (.iload_n 2, 1) := by decide +kernel
theorem dX11_isSeen_93 : decode cX11_isSeen 93 = .ok (.aload_n 0, 1) := by decide +kernel
theorem dX11_isSeen_94 : decode cX11_isSeen 94 = .ok (.getfield 48, 3) := by decide +kernel
theorem dX11_isSeen_97 : decode cX11_isSeen 97 = .ok (.sipush 134, 3) := by decide +kernel
theorem dX11_isSeen_100 : decode cX11_isSeen 100 = .ok (.iload_n 2, 1) := by decide +kernel
theorem dX11_isSeen_101 : decode cX11_isSeen 101 = .ok (.iadd, 1) := by decide +kernel
theorem dX11_isSeen_102 : decode cX11_isSeen 102 = .ok (.iaload, 1) := by decide +kernel
theorem dX11_isSeen_103 : decode cX11_isSeen 103 = .ok (.iastore, 1) := by decide +kernel
theorem dX11_isSeen_104 : decode cX11_isSeen 104 = .ok (.iinc 2 1, 3) := by decide +kernel
theorem dX11_isSeen_107 : decode cX11_isSeen 107 = .ok (.goto (-27), 3) := by decide +kernel
theorem dX11_isSeen_110 : decode cX11_isSeen 110 = .ok (.aload_n 0, 1) := by decide +kernel
theorem dX11_isSeen_111 : decode cX11_isSeen 111 = .ok (.bipush 79, 2) := by decide +kernel
theorem dX11_isSeen_113 : decode cX11_isSeen 113 = .ok (.invokevirtual 341, 3) := by decide +kernel
theorem dX11_isSeen_116 : decode cX11_isSeen 116 = .ok (.iinc 1 1, 3) := by decide +kernel
theorem dX11_isSeen_119 : decode cX11_isSeen 119 = .ok (.goto (-117), 3) := by decide +kernel
theorem dX11_isSeen_122 : decode cX11_isSeen 122 = .ok (.iconst 1, 1) := by decide +kernel
theorem dX11_isSeen_123 : decode cX11_isSeen 123 = .ok (.ireturn, 1) := by decide +kernel
theorem dX11_isGuess_0 : decode cX11_isGuess 0 = .ok (.iload_n 1, 1) := by decide +kernel
theorem dX11_isGuess_1 : decode cX11_isGuess 1 = .ok (.bipush 10, 2) := by decide +kernel
theorem dX11_isGuess_3 : decode cX11_isGuess 3 = .ok (.idiv, 1) := by decide +kernel
theorem dX11_isGuess_4 : decode cX11_isGuess 4 = .ok (.istore_n 2, 1) := by decide +kernel
theorem dX11_isGuess_5 : decode cX11_isGuess 5 = .ok (.aload_n 0, 1) := by decide +kernel
theorem dX11_isGuess_6 : decode cX11_isGuess 6 = .ok (.getfield 48, 3) := by decide +kernel
theorem dX11_isGuess_9 : decode cX11_isGuess 9 = .ok (.bipush 73, 2) := by decide +kernel
theorem dX11_isGuess_11 : decode cX11_isGuess 11 = .ok (.iload_n 2, 1) := by decide +kernel
theorem dX11_isGuess_12 : decode cX11_isGuess 12 = .ok (.iadd, 1) := by decide +kernel
theorem dX11_isGuess_13 : decode cX11_isGuess 13 = .ok (.iaload, 1) := by decide +kernel
theorem dX11_isGuess_14 : decode cX11_isGuess 14 = .ok (.iload_n 1, 1) := by decide +kernel
theorem dX11_isGuess_15 : decode cX11_isGuess 15 = .ok (.bipush 10, 2) := by decide +kernel
theorem dX11_isGuess_17 : decode cX11_isGuess 17 = .ok (.irem, 1) := by decide +kernel
theorem dX11_isGuess_18 : decode cX11_isGuess 18 = .ok (.if_icmp .ne 5, 3) := by decide +kernel
theorem dX11_isGuess_21 : decode cX11_isGuess 21 = .ok (.iconst 0, 1) := by decide +kernel
theorem dX11_isGuess_22 : decode cX11_isGuess 22 = .ok (.ireturn, 1) := by decide +kernel
theorem dX11_isGuess_23 : decode cX11_isGuess 23 = .ok (.aload_n 0, 1) := by decide +kernel
theorem dX11_isGuess_24 : decode cX11_isGuess 24 = .ok (.invokevirtual 389, 3) := by decide +kernel
theorem dX11_isGuess_27 : decode cX11_isGuess 27 = .ok (.aload_n 0, 1) := by decide +kernel
theorem dX11_isGuess_28 : decode cX11_isGuess 28 = .ok (.getfield 48, 3) := by decide +kernel
theorem dX11_isGuess_31 : decode cX11_isGuess 31 = .ok (.sipush 152, 3) := by decide +kernel
theorem dX11_isGuess_34 : decode cX11_isGuess 34 = .ok (.iload_n 2, 1) := by decide +kernel
theorem dX11_isGuess_35 : decode cX11_isGuess 35 = .ok (.iadd, 1) := by decide +kernel
theorem dX11_isGuess_36 : decode cX11_isGuess 36 = .ok (.iload_n 1, 1) := by decide +kernel
theorem dX11_isGuess_37 : decode cX11_isGuess 37 = .ok (.bipush 10, 2) := by decide +kernel
theorem dX11_isGuess_39 : decode cX11_isGuess 39 = .ok (.irem, 1) := by decide +kernel
theorem dX11_isGuess_40 : decode cX11_isGuess 40 = .ok (.iastore, 1) := by decide +kernel
theorem dX11_isGuess_41 : decode cX11_isGuess 41 = .ok (.aload_n 0, 1) := by decide +kernel
theorem dX11_isGuess_42 : decode cX11_isGuess 42 = .ok (.invokevirtual 419, 3) := by decide +kernel
theorem dX11_isGuess_45 : decode cX11_isGuess 45 = .ok (.ireturn, 1) := by decide +kernel
theorem dX11_quick_0 : decode cX11_quick 0 = .ok (.aload_n 0, 1) := by decide +kernel
theorem dX11_quick_1 : decode cX11_quick 1 = .ok (.iconst 0, 1) := by decide +kernel
theorem dX11_quick_2 : decode cX11_quick 2 = .ok (.putfield 99, 3) := by decide +kernel
theorem dX11_quick_5 : decode cX11_quick 5 = .ok (.aload_n 0, 1) := by decide +kernel
theorem dX11_quick_6 : decode cX11_quick 6 = .ok (.iload_n 1, 1) := by decide +kernel
theorem dX11_quick_7 : decode cX11_quick 7 = .ok (.iconst 2, 1) := by decide +kernel
theorem dX11_quick_8 : decode cX11_quick 8 = .ok (.invokevirtual 365, 3) := by decide +kernel
theorem dX11_quick_11 : decode cX11_quick 11 = .ok (.ifCond .ne 5, 3) := by decide +kernel
theorem dX11_quick_14 : decode cX11_quick 14 = .ok (.iconst 0, 1) := by decide +kernel
theorem dX11_quick_15 : decode cX11_quick 15 = .ok (.ireturn, 1) := by decide +kernel
theorem dX11_quick_16 : decode cX11_quick 16 = .ok (.iload_n 1, 1) := by decide +kernel
theorem dX11_quick_17 : decode cX11_quick 17 = .ok (.iconst 2, 1) := by decide +kernel
theorem dX11_quick_18 : decode cX11_quick 18 = .ok (.if_icmp .ne 20, 3) := by decide +kernel
theorem dX11_quick_21 : decode cX11_quick 21 = .ok (.aload_n 0, 1) := by decide +kernel
theorem dX11_quick_22 : decode cX11_quick 22 = .ok (.invokevirtual 389, 3) := by decide +kernel
theorem dX11_quick_25 : decode cX11_quick 25 = .ok (.aload_n 0, 1) := by decide +kernel
theorem dX11_quick_26 : decode cX11_quick 26 = .ok (.invokevirtual 419, 3) := by decide +kernel
theorem dX11_quick_29 : decode cX11_quick 29 = .ok (.ifCond .eq 7, 3) := by decide +kernel
theorem dX11_quick_32 : decode cX11_quick 32 = .ok (.iconst 1, 1) := by decide +kernel
theorem dX11_quick_33 : decode cX11_quick 33 = .ok (.goto 4, 3) := by decide +kernel
theorem dX11_quick_36 : decode cX11_quick 36 = .ok (.iconst 0, 1) := by decide +kernel
theorem dX11_quick_37 : decode cX11_quick 37 = .ok (.ireturn, 1) := by decide +kernel
theorem dX11_quick_38 : decode cX11_quick 38 = .ok (.iconst 0, 1) := by decide +kernel
theorem dX11_quick_39 : decode cX11_quick 39 = .ok (.istore_n 2, 1) := by decide +kernel
theorem dX11_quick_40 : decode cX11_quick 40 = .ok (.iconst (-1), 1) := by decide +kernel
theorem dX11_quick_41 : decode cX11_quick 41 = .ok (.istore_n 3, 1) := by decide +kernel
theorem dX11_quick_42 : decode cX11_quick 42 = .ok (.iconst 0, 1) := by decide +kernel
theorem dX11_quick_43 : decode cX11_quick 43 = .ok (.istore 4, 2) := by decide +kernel
theorem dX11_quick_45 : decode cX11_quick 45 = .ok (.iload 4, 2) := by decide +kernel
theorem dX11_quick_47 : decode cX11_quick 47 = .ok (.bipush 10, 2) := by decide +kernel
theorem dX11_quick_49 : decode cX11_quick 49 = .ok (.aload_n 0, 1) := by decide +kernel
theorem dX11_quick_50 : decode cX11_quick 50 = .ok (.getfield 276, 3) := by decide +kernel
theorem dX11_quick_53 : decode cX11_quick 53 = .ok (.imul, 1) := by decide +kernel
theorem dX11_quick_54 : decode cX11_quick 54 = .ok (.if_icmp .ge 32, 3) := by decide +kernel
theorem dX11_quick_57 : decode cX11_quick 57 = .ok (.aload_n 0, 1) := by decide +kernel
theorem dX11_quick_58 : decode cX11_quick 58 = .ok (.iload 4, 2) := by decide +kernel
theorem dX11_quick_60 : decode cX11_quick 60 = .ok (.invokevirtual 422, 3) := by decide +kernel
theorem dX11_quick_63 : decode cX11_quick 63 = .ok (.ifCond .ne 6, 3) := by decide +kernel
theorem dX11_quick_66 : decode cX11_quick 66 = .ok (.goto 14, 3) := by decide +kernel
theorem dX11_quick_69 : decode cX11_quick 69 = .ok (.iinc 2 1, 3) := by decide +kernel
theorem dX11_quick_72 : decode cX11_quick 72 = .ok (.iload_n 3, 1) := by decide +kernel
theorem dX11_quick_73 : decode cX11_quick 73 = .ok (.iconst (-1), 1) := by decide +kernel
theorem dX11_quick_74 : decode cX11_quick 74 = .ok (.if_icmp .ne 6, 3) := by decide +kernel
theorem dX11_quick_77 : decode cX11_quick 77 = .ok (.iload 4, 2) := by decide +kernel
theorem dX11_quick_79 : decode cX11_quick 79 = .ok (.istore_n 3, 1) := by decide +kernel
theorem dX11_quick_80 : decode cX11_quick 80 = .ok (.iinc 4 1, 3) := by decide +kernel
theorem dX11_quick_83 : decode cX11_quick 83 = .ok (.goto (-38), 3) := by decide +kernel
theorem dX11_quick_86 : decode cX11_quick 86 = .ok (.iload_n 1, 1) := by decide +kernel
theorem dX11_quick_87 : decode cX11_quick 87 = .ok (.ifCond .ne 7, 3) := by decide +kernel
theorem dX11_quick_90 : decode cX11_quick 90 = .ok (.iload_n 2, 1) := by decide +kernel
theorem dX11_quick_91 : decode cX11_quick 91 = .ok (.goto 4, 3) := by decide +kernel
theorem dX11_quick_94 : decode cX11_quick 94 = .ok (.iload_n 3, 1) := by decide +kernel
theorem dX11_quick_95 : decode cX11_quick 95 = .ok (.ireturn, 1) := by decide +kernel
theorem dX11_look_0 : decode cX11_look 0 = .ok (.aload_n 0, 1) := by decide +kernel
theorem dX11_look_1 : decode cX11_look 1 = .ok (.iconst 0, 1) := by decide +kernel
theorem dX11_look_2 : decode cX11_look 2 = .ok (.putfield 99, 3) := by decide +kernel
theorem dX11_look_5 : decode cX11_look 5 = .ok (.aload_n 0, 1) := by decide +kernel
theorem dX11_look_6 : decode cX11_look 6 = .ok (.iload_n 1, 1) := by decide +kernel
theorem dX11_look_7 : decode cX11_look 7 = .ok (.iconst 1, 1) := by decide +kernel
theorem dX11_look_8 : decode cX11_look 8 = .ok (.invokevirtual 365, 3) := by decide +kernel
theorem dX11_look_11 : decode cX11_look 11 = .ok (.ifCond .ne 5, 3) := by decide +kernel
theorem dX11_look_14 : decode cX11_look 14 = .ok (.iconst 0, 1) := by decide +kernel
theorem dX11_look_15 : decode cX11_look 15 = .ok (.ireturn, 1) := by decide +kernel
theorem dX11_look_16 : decode cX11_look 16 = .ok (.iconst 0, 1) := by decide +kernel
theorem dX11_look_17 : decode cX11_look 17 = .ok (.istore_n 2, 1) := by decide +kernel
theorem dX11_look_18 : decode cX11_look 18 = .ok (.iconst 0, 1) := by decide +kernel
theorem dX11_look_19 : decode cX11_look 19 = .ok (.istore_n 3, 1) := by decide +kernel
theorem dX11_look_20 : decode cX11_look 20 = .ok (.iload_n 3, 1) := by decide +kernel
theorem dX11_look_21 : decode cX11_look 21 = .ok (.bipush 10, 2) := by decide +kernel
theorem dX11_look_23 : decode cX11_look 23 = .ok (.aload_n 0, 1) := by decide +kernel
theorem dX11_look_24 : decode cX11_look 24 = .ok (.getfield 276, 3) := by decide +kernel
theorem dX11_look_27 : decode cX11_look 27 = .ok (.imul, 1) := by decide +kernel
theorem dX11_look_28 : decode cX11_look 28 = .ok (.if_icmp .ge 60, 3) := by decide +kernel
theorem dX11_look_31 : decode cX11_look 31 = .ok (.aload_n 0, 1) := by decide +kernel
theorem dX11_look_32 : decode cX11_look 32 = .ok (.iload_n 3, 1) := by decide +kernel
theorem dX11_look_33 : decode cX11_look 33 = .ok (.invokevirtual 422, 3) := by decide +kernel
theorem dX11_look_36 : decode cX11_look 36 = .ok (.ifCond .ne 6, 3) := by decide +kernel
theorem dX11_look_39 : decode cX11_look 39 = .ok (.goto 43, 3) := by decide +kernel
theorem dX11_look_42 : decode cX11_look 42 = .ok (.iconst 0, 1) := by decide +kernel
theorem dX11_look_43 : decode cX11_look 43 = .ok (.istore 4, 2) := by decide +kernel
theorem dX11_look_45 : decode cX11_look 45 = .ok (.iload 4, 2) := by decide +kernel
theorem dX11_look_47 : decode cX11_look 47 = .ok (.aload_n 0, 1) := by decide +kernel
theorem dX11_look_48 : decode cX11_look 48 = .ok (.getfield 276, 3) := by decide +kernel
theorem dX11_look_51 : decode cX11_look 51 = .ok (.if_icmp .ge 28, 3) := by decide +kernel
theorem dX11_look_54 : decode cX11_look 54 = .ok (.aload_n 0, 1) := by decide +kernel
theorem dX11_look_55 : decode cX11_look 55 = .ok (.getfield 87, 3) := by decide +kernel
theorem dX11_look_58 : decode cX11_look 58 = .ok (.bipush 6, 2) := by decide +kernel
theorem dX11_look_60 : decode cX11_look 60 = .ok (.iload_n 2, 1) := by decide +kernel
theorem dX11_look_61 : decode cX11_look 61 = .ok (.imul, 1) := by decide +kernel
theorem dX11_look_62 : decode cX11_look 62 = .ok (.iload 4, 2) := by decide +kernel
theorem dX11_look_64 : decode cX11_look 64 = .ok (.iadd, 1) := by decide +kernel
theorem dX11_look_65 : decode cX11_look 65 = .ok (.aload_n 0, 1) := by decide +kernel
theorem dX11_look_66 : decode cX11_look 66 = .ok (.getfield 84, 3) := by decide +kernel
theorem dX11_look_69 : decode cX11_look 69 = .ok (.iload 4, 2) := by decide +kernel
theorem dX11_look_71 : decode cX11_look 71 = .ok (.iaload, 1) := by decide +kernel
theorem dX11_look_72 : decode cX11_look 72 = .ok (.iastore, 1) := by decide +kernel
theorem dX11_look_73 : decode cX11_look 73 = .ok (.iinc 4 1, 3) := by decide +kernel
theorem dX11_look_76 : decode cX11_look 76 = .ok (.goto (-31), 3) := by decide +kernel
theorem dX11_look_79 : decode cX11_look 79 = .ok (.iinc 2 1, 3) := by decide +kernel
theorem dX11_look_82 : decode cX11_look 82 = .ok (.iinc 3 1, 3) := by decide +kernel
theorem dX11_look_85 : decode cX11_look 85 = .ok (.goto (-65), 3) := by decide +kernel
theorem dX11_look_88 : decode cX11_look 88 = .ok (.iconst (-1), 1) := by decide +kernel
theorem dX11_look_89 : decode cX11_look 89 = .ok (.istore_n 3, 1) := by decide +kernel
theorem dX11_look_90 : decode cX11_look 90 = .ok (.iconst 0, 1) := by decide +kernel
theorem dX11_look_91 : decode cX11_look 91 = .ok (.istore 4, 2) := by decide +kernel
theorem dX11_look_93 : decode cX11_look 93 = .ok (.iconst 0, 1) := by decide +kernel
theorem dX11_look_94 : decode cX11_look 94 = .ok (.istore 5, 2) := by decide +kernel
theorem dX11_look_96 : decode cX11_look 96 = .ok (.iload 5, 2) := by decide +kernel
theorem dX11_look_98 : decode cX11_look 98 = .ok (.aload_n 0, 1) := by decide +kernel
theorem dX11_look_99 : decode cX11_look 99 = .ok (.getfield 276, 3) := by decide +kernel
theorem dX11_look_102 : decode cX11_look 102 = .ok (.if_icmp .ge 119, 3) := by decide +kernel
theorem dX11_look_105 : decode cX11_look 105 = .ok (.iconst 0, 1) := by decide +kernel
theorem dX11_look_106 : decode cX11_look 106 = .ok (.istore 6, 2) := by decide +kernel
theorem dX11_look_108 : decode cX11_look 108 = .ok (.iconst 0, 1) := by decide +kernel
theorem dX11_look_109 : decode cX11_look 109 = .ok (.istore 7, 2) := by decide +kernel
theorem dX11_look_111 : decode cX11_look 111 = .ok (.iload 7, 2) := by decide +kernel
theorem dX11_look_113 : decode cX11_look 113 = .ok (.iload_n 2, 1) := by decide +kernel
theorem dX11_look_114 : decode cX11_look 114 = .ok (.if_icmp .ge 84, 3) := by decide +kernel
theorem dX11_look_117 : decode cX11_look 117 = .ok (.iconst 1, 1) := by decide +kernel
theorem dX11_look_118 : decode cX11_look 118 = .ok (.istore 8, 2) := by decide +kernel
theorem dX11_look_120 : decode cX11_look 120 = .ok (.iconst 0, 1) := by decide +kernel
theorem dX11_look_121 : decode cX11_look 121 = .ok (.istore 9, 2) := by decide +kernel
theorem dX11_look_123 : decode cX11_look 123 = .ok (.iload 9, 2) := by decide +kernel
theorem dX11_look_125 : decode cX11_look 125 = .ok (.iload 7, 2) := by decide +kernel
theorem dX11_look_127 : decode cX11_look 127 = .ok (.if_icmp .ge 50, 3) := by decide +kernel
theorem dX11_look_130 : decode cX11_look 130 = .ok (.iload 8, 2) := by decide +kernel
theorem dX11_look_132 : decode cX11_look 132 = .ok (.ifCond .eq 45, 3) := by decide +kernel
theorem dX11_look_135 : decode cX11_look 135 = .ok (.aload_n 0, 1) := by decide +kernel
theorem dX11_look_136 : decode cX11_look 136 = .ok (.getfield 87, 3) := by decide +kernel
theorem dX11_look_139 : decode cX11_look 139 = .ok (.bipush 6, 2) := by decide +kernel
theorem dX11_look_141 : decode cX11_look 141 = .ok (.iload 7, 2) := by decide +kernel
theorem dX11_look_143 : decode cX11_look 143 = .ok (.imul, 1) := by decide +kernel
theorem dX11_look_144 : decode cX11_look 144 = .ok (.iload 5, 2) := by decide +kernel
theorem dX11_look_146 : decode cX11_look 146 = .ok (.iadd, 1) := by decide +kernel
theorem dX11_look_147 : decode cX11_look 147 = .ok (.iaload, 1) := by decide +kernel
theorem dX11_look_148 : decode cX11_look 148 = .ok (.aload_n 0, 1) := by decide +kernel
theorem dX11_look_149 : decode cX11_look 149 = .ok (.getfield 87, 3) := by decide +kernel
theorem dX11_look_152 : decode cX11_look 152 = .ok (.bipush 6, 2) := by decide +kernel
theorem dX11_look_154 : decode cX11_look 154 = .ok (.iload 9, 2) := by decide +kernel
theorem dX11_look_156 : decode cX11_look 156 = .ok (.imul, 1) := by decide +kernel
theorem dX11_look_157 : decode cX11_look 157 = .ok (.iload 5, 2) := by decide +kernel
theorem dX11_look_159 : decode cX11_look 159 = .ok (.iadd, 1) := by decide +kernel
theorem dX11_look_160 : decode cX11_look 160 = .ok (.iaload, 1) := by decide +kernel
theorem dX11_look_161 : decode cX11_look 161 = .ok (.if_icmp .eq 7, 3) := by decide +kernel
theorem dX11_look_164 : decode cX11_look 164 = .ok (.iconst 1, 1) := by decide +kernel
theorem dX11_look_165 : decode cX11_look 165 = .ok (.goto 4, 3) := by decide +kernel
theorem dX11_look_168 : decode cX11_look 168 = .ok (.iconst 0, 1) := by decide +kernel
theorem dX11_look_169 : decode cX11_look 169 = .ok (.istore 8, 2) := by decide +kernel
theorem dX11_look_171 : decode cX11_look 171 = .ok (.iinc 9 1, 3) := by decide +kernel
theorem dX11_look_174 : decode cX11_look 174 = .ok (.goto (-51), 3) := by decide +kernel
theorem dX11_look_177 : decode cX11_look 177 = .ok (.iload 6, 2) := by decide +kernel
theorem dX11_look_179 : decode cX11_look 179 = .ok (.iload 8, 2) := by decide +kernel
theorem dX11_look_181 : decode cX11_look 181 = .ok (.ifCond .eq 7, 3) := by decide +kernel
theorem dX11_look_184 : decode cX11_look 184 = .ok (.iconst 1, 1) := by decide +kernel
theorem dX11_look_185 : decode cX11_look 185 = .ok (.goto 4, 3) := by decide +kernel
theorem dX11_look_188 : decode cX11_look 188 = .ok (.iconst 0, 1) := by decide +kernel
theorem dX11_look_189 : decode cX11_look 189 = .ok (.iadd, 1) := by decide +kernel
theorem dX11_look_190 : decode cX11_look 190 = .ok (.istore 6, 2) := by decide +kernel
theorem dX11_look_192 : decode cX11_look 192 = .ok (.iinc 7 1, 3) := by decide +kernel
theorem dX11_look_195 : decode cX11_look 195 = .ok (.goto (-84), 3) := by decide +kernel
theorem dX11_look_198 : decode cX11_look 198 = .ok (.iload 6, 2) := by decide +kernel
theorem dX11_look_200 : decode cX11_look 200 = .ok (.iload 4, 2) := by decide +kernel
theorem dX11_look_202 : decode cX11_look 202 = .ok (.if_icmp .gt 6, 3) := by decide +kernel
theorem dX11_look_205 : decode cX11_look 205 = .ok (.goto 10, 3) := by decide +kernel
theorem dX11_look_208 : decode cX11_look 208 = .ok (.iload 5, 2) := by decide +kernel
theorem dX11_look_210 : decode cX11_look 210 = .ok (.istore_n 3, 1) := by decide +kernel
theorem dX11_look_211 : decode cX11_look 211 = .ok (.iload 6, 2) := by decide +kernel
theorem dX11_look_213 : decode cX11_look 213 = .ok (.istore 4, 2) := by decide +kernel
theorem dX11_look_215 : decode cX11_look 215 = .ok (.iinc 5 1, 3) := by decide +kernel
theorem dX11_look_218 : decode cX11_look 218 = .ok (.goto (-122), 3) := by decide +kernel
theorem dX11_look_221 : decode cX11_look 221 = .ok (.iload_n 1, 1) := by decide +kernel
theorem dX11_look_222 : decode cX11_look 222 = .ok (.ifCond .ne 7, 3) := by decide +kernel
theorem dX11_look_225 : decode cX11_look 225 = .ok (.iload_n 3, 1) := by decide +kernel
theorem dX11_look_226 : decode cX11_look 226 = .ok (.goto 5, 3) := by decide +kernel
theorem dX11_look_229 : decode cX11_look 229 = .ok (.iload 4, 2) := by decide +kernel
theorem dX11_look_231 : decode cX11_look 231 = .ok (.ireturn, 1) := by decide +kernel
theorem dX11_candles_0 : decode cX11_candles 0 = .ok (.aload_n 0, 1) := by decide +kernel
theorem dX11_candles_1 : decode cX11_candles 1 = .ok (.iconst 0, 1) := by decide +kernel
theorem dX11_candles_2 : decode cX11_candles 2 = .ok (.putfield 99, 3) := by decide +kernel
theorem dX11_candles_5 : decode cX11_candles 5 = .ok (.aload_n 0, 1) := by decide +kernel
theorem dX11_candles_6 : decode cX11_candles 6 = .ok (.iload_n 1, 1) := by decide +kernel
theorem dX11_candles_7 : decode cX11_candles 7 = .ok (.invokevirtual 368, 3) := by decide +kernel
theorem dX11_candles_10 : decode cX11_candles 10 = .ok (.ifCond .eq 35, 3) := by decide +kernel
theorem dX11_candles_13 : decode cX11_candles 13 = .ok (.aload_n 0, 1) := by decide +kernel
theorem dX11_candles_14 : decode cX11_candles 14 = .ok (.iload_n 2, 1) := by decide +kernel
theorem dX11_candles_15 : decode cX11_candles 15 = .ok (.iconst 1, 1) := by decide +kernel
theorem dX11_candles_16 : decode cX11_candles 16 = .ok (.iconst 5, 1) := by decide +kernel
theorem dX11_candles_17 : decode cX11_candles 17 = .ok (.invokestatic 344, 3) := by decide +kernel
theorem dX11_candles_20 : decode cX11_candles 20 = .ok (.ifCond .eq 17, 3) := by decide +kernel
theorem dX11_candles_23 : decode cX11_candles 23 = .ok (.iload_n 3, 1) := by decide +kernel
theorem dX11_candles_24 : decode cX11_candles 24 = .ok (.iconst 0, 1) := by decide +kernel
theorem dX11_candles_25 : decode cX11_candles 25 = .ok (.bipush 10, 2) := by decide +kernel
theorem dX11_candles_27 : decode cX11_candles 27 = .ok (.invokestatic 344, 3) := by decide +kernel
theorem dX11_candles_30 : decode cX11_candles 30 = .ok (.ifCond .eq 7, 3) := by decide +kernel
theorem dX11_candles_33 : decode cX11_candles 33 = .ok (.iconst 1, 1) := by decide +kernel
theorem dX11_candles_34 : decode cX11_candles 34 = .ok (.goto 4, 3) := by decide +kernel
theorem dX11_candles_37 : decode cX11_candles 37 = .ok (.iconst 0, 1) := by decide +kernel
theorem dX11_candles_38 : decode cX11_candles 38 = .ok (.iconst 2, 1) := by decide +kernel
theorem dX11_candles_39 : decode cX11_candles 39 = .ok (.invokevirtual 266, 3) := by decide +kernel
theorem dX11_candles_42 : decode cX11_candles 42 = .ok (.ifCond .ne 5, 3) := by decide +kernel
theorem dX11_candles_45 : decode cX11_candles 45 = .ok (.iconst 0, 1) := by decide +kernel
theorem dX11_candles_46 : decode cX11_candles 46 = .ok (.ireturn, 1) := by decide +kernel
theorem dX11_candles_47 : decode cX11_candles 47 = .ok (.iconst 0, 1) := by decide +kernel
theorem dX11_candles_48 : decode cX11_candles 48 = .ok (.istore 4, 2) := by decide +kernel
theorem dX11_candles_50 : decode cX11_candles 50 = .ok (.iconst 0, 1) := by decide +kernel
theorem dX11_candles_51 : decode cX11_candles 51 = .ok (.istore 5, 2) := by decide +kernel
theorem dX11_candles_53 : decode cX11_candles 53 = .ok (.iload 5, 2) := by decide +kernel
theorem dX11_candles_55 : decode cX11_candles 55 = .ok (.iconst 1, 1) := by decide +kernel
theorem dX11_candles_56 : decode cX11_candles 56 = .ok (.iload_n 2, 1) := by decide +kernel
theorem dX11_candles_57 : decode cX11_candles 57 = .ok (.ishl, 1) := by decide +kernel
theorem dX11_candles_58 : decode cX11_candles 58 = .ok (.if_icmp .ge 102, 3) := by decide +kernel
theorem dX11_candles_61 : decode cX11_candles 61 = .ok (.iconst 1, 1) := by decide +kernel
theorem dX11_candles_62 : decode cX11_candles 62 = .ok (.istore 6, 2) := by decide +kernel
theorem dX11_candles_64 : decode cX11_candles 64 = .ok (.aload_n 0, 1) := by decide +kernel
theorem dX11_candles_65 : decode cX11_candles 65 = .ok (.invokevirtual 389, 3) := by decide +kernel
theorem dX11_candles_68 : decode cX11_candles 68 = .ok (.iconst 0, 1) := by decide +kernel
theorem dX11_candles_69 : decode cX11_candles 69 = .ok (.istore 7, 2) := by decide +kernel
theorem dX11_candles_71 : decode cX11_candles 71 = .ok (.iload 7, 2) := by decide +kernel
theorem dX11_candles_73 : decode cX11_candles 73 = .ok (.iload_n 2, 1) := by decide +kernel
theorem dX11_candles_74 : decode cX11_candles 74 = .ok (.if_icmp .ge 55, 3) := by decide +kernel
theorem dX11_candles_77 : decode cX11_candles 77 = .ok (.aload_n 0, 1) := by decide +kernel
theorem dX11_candles_78 : decode cX11_candles 78 = .ok (.iload 5, 2) := by decide +kernel
theorem dX11_candles_80 : decode cX11_candles 80 = .ok (.iload 7, 2) := by decide +kernel
theorem dX11_candles_82 : decode cX11_candles 82 = .ok (.ishr, 1) := by decide +kernel
theorem dX11_candles_83 : decode cX11_candles 83 = .ok (.iconst 1, 1) := by decide +kernel
theorem dX11_candles_84 : decode cX11_candles 84 = .ok (.iand, 1) := by decide +kernel
theorem dX11_candles_85 : decode cX11_candles 85 = .ok (.iconst 1, 1) := by decide +kernel
theorem dX11_candles_86 : decode cX11_candles 86 = .ok (.if_icmp .ne 7, 3) := by decide +kernel
theorem dX11_candles_89 : decode cX11_candles 89 = .ok (.iconst 1, 1) := by decide +kernel
theorem dX11_candles_90 : decode cX11_candles 90 = .ok (.goto 4, 3) := by decide +kernel
theorem dX11_candles_93 : decode cX11_candles 93 = .ok (.iconst 0, 1) := by decide +kernel
theorem dX11_candles_94 : decode cX11_candles 94 = .ok (.putfield 310, 3) := by decide +kernel
theorem dX11_candles_97 : decode cX11_candles 97 = .ok (.iload 6, 2) := by decide +kernel
theorem dX11_candles_99 : decode cX11_candles 99 = .ok (.aload_n 0, 1) := by decide +kernel
theorem dX11_candles_100 : decode cX11_candles 100 = .ok (.getfield 310, 3) := by decide +kernel
theorem dX11_candles_103 : decode cX11_candles 103 = .ok (.ifCond .eq 7, 3) := by decide +kernel
theorem dX11_candles_106 : decode cX11_candles 106 = .ok (.iload_n 3, 1) := by decide +kernel
theorem dX11_candles_107 : decode cX11_candles 107 = .ok (.goto 7, 3) := by decide +kernel
theorem dX11_candles_110 : decode cX11_candles 110 = .ok (.bipush 10, 2) := by decide +kernel
theorem dX11_candles_112 : decode cX11_candles 112 = .ok (.iload_n 3, 1) := by decide +kernel
theorem dX11_candles_113 : decode cX11_candles 113 = .ok (.isub, 1) := by decide +kernel
theorem dX11_candles_114 : decode cX11_candles 114 = .ok (.imul, 1) := by decide +kernel
theorem dX11_candles_115 : decode cX11_candles 115 = .ok (.istore 6, 2) := by decide +kernel
theorem dX11_candles_117 : decode cX11_candles 117 = .ok (.aload_n 0, 1) := by decide +kernel
theorem dX11_candles_118 : decode cX11_candles 118 = .ok (.bipush 79, 2) := by decide +kernel
theorem dX11_candles_120 : decode cX11_candles 120 = .ok (.invokevirtual 341, 3) := by decide +kernel
theorem dX11_candles_123 : decode cX11_candles 123 = .ok (.iinc 7 1, 3) := by decide +kernel
theorem dX11_candles_126 : decode cX11_candles 126 = .ok (.goto (-55), 3) := by decide +kernel
theorem dX11_candles_129 : decode cX11_candles 129 = .ok (.iload 4, 2) := by decide +kernel
theorem dX11_candles_131 : decode cX11_candles 131 = .ok (.aload_n 0, 1) := by decide +kernel
theorem dX11_candles_132 : decode cX11_candles 132 = .ok (.getfield 48, 3) := by decide +kernel
theorem dX11_candles_135 : decode cX11_candles 135 = .ok (.sipush 140, 3) := by decide +kernel
theorem dX11_candles_138 : decode cX11_candles 138 = .ok (.iload_n 1, 1) := by decide +kernel
theorem dX11_candles_139 : decode cX11_candles 139 = .ok (.iadd, 1) := by decide +kernel
theorem dX11_candles_140 : decode cX11_candles 140 = .ok (.iaload, 1) := by decide +kernel
theorem dX11_candles_141 : decode cX11_candles 141 = .ok (.iconst (-1), 1) := by decide +kernel
theorem dX11_candles_142 : decode cX11_candles 142 = .ok (.if_icmp .ne 8, 3) := by decide +kernel
theorem dX11_candles_145 : decode cX11_candles 145 = .ok (.iload 6, 2) := by decide +kernel
theorem dX11_candles_147 : decode cX11_candles 147 = .ok (.goto 4, 3) := by decide +kernel
theorem dX11_candles_150 : decode cX11_candles 150 = .ok (.iconst 0, 1) := by decide +kernel
theorem dX11_candles_151 : decode cX11_candles 151 = .ok (.iadd, 1) := by decide +kernel
theorem dX11_candles_152 : decode cX11_candles 152 = .ok (.istore 4, 2) := by decide +kernel
theorem dX11_candles_154 : decode cX11_candles 154 = .ok (.iinc 5 1, 3) := by decide +kernel
theorem dX11_candles_157 : decode cX11_candles 157 = .ok (.goto (-104), 3) := by decide +kernel
theorem dX11_candles_160 : decode cX11_candles 160 = .ok (.aload_n 0, 1) := by decide +kernel
theorem dX11_candles_161 : decode cX11_candles 161 = .ok (.iconst 0, 1) := by decide +kernel
theorem dX11_candles_162 : decode cX11_candles 162 = .ok (.putfield 310, 3) := by decide +kernel
theorem dX11_candles_165 : decode cX11_candles 165 = .ok (.iload 4, 2) := by decide +kernel
theorem dX11_candles_167 : decode cX11_candles 167 = .ok (.ireturn, 1) := by decide +kernel
theorem dX11_gains_0 : decode cX11_gains 0 = .ok (.aload_n 0, 1) := by decide +kernel
theorem dX11_gains_1 : decode cX11_gains 1 = .ok (.invokevirtual 389, 3) := by decide +kernel
theorem dX11_gains_4 : decode cX11_gains 4 = .ok (.iload_n 3, 1) := by decide +kernel
theorem dX11_gains_5 : decode cX11_gains 5 = .ok (.iconst 1, 1) := by decide +kernel
theorem dX11_gains_6 : decode cX11_gains 6 = .ok (.if_icmp .ne 14, 3) := by decide +kernel
theorem dX11_gains_9 : decode cX11_gains 9 = .ok (.aload_n 0, 1) := by decide +kernel
theorem dX11_gains_10 : decode cX11_gains 10 = .ok (.getfield 48, 3) := by decide +kernel
theorem dX11_gains_13 : decode cX11_gains 13 = .ok (.sipush 140, 3) := by decide +kernel
theorem dX11_gains_16 : decode cX11_gains 16 = .ok (.iload_n 1, 1) := by decide +kernel
theorem dX11_gains_17 : decode cX11_gains 17 = .ok (.iadd, 1) := by decide +kernel
theorem dX11_gains_18 : decode cX11_gains 18 = .ok (.iconst (-1), 1) := by decide +kernel
theorem dX11_gains_19 : decode cX11_gains 19 = .ok (.iastore, 1) := by decide +kernel
theorem dX11_gains_20 : decode cX11_gains 20 = .ok (.iload 4, 2) := by decide +kernel
theorem dX11_gains_22 : decode cX11_gains 22 = .ok (.iconst 1, 1) := by decide +kernel
theorem dX11_gains_23 : decode cX11_gains 23 = .ok (.if_icmp .ne 14, 3) := by decide +kernel
theorem dX11_gains_26 : decode cX11_gains 26 = .ok (.aload_n 0, 1) := by decide +kernel
theorem dX11_gains_27 : decode cX11_gains 27 = .ok (.getfield 48, 3) := by decide +kernel
theorem dX11_gains_30 : decode cX11_gains 30 = .ok (.sipush 140, 3) := by decide +kernel
theorem dX11_gains_33 : decode cX11_gains 33 = .ok (.iload_n 2, 1) := by decide +kernel
theorem dX11_gains_34 : decode cX11_gains 34 = .ok (.iadd, 1) := by decide +kernel
theorem dX11_gains_35 : decode cX11_gains 35 = .ok (.iconst (-1), 1) := by decide +kernel
theorem dX11_gains_36 : decode cX11_gains 36 = .ok (.iastore, 1) := by decide +kernel
theorem dX11_gains_37 : decode cX11_gains 37 = .ok (.iconst 0, 1) := by decide +kernel
theorem dX11_gains_38 : decode cX11_gains 38 = .ok (.istore 5, 2) := by decide +kernel
theorem dX11_gains_40 : decode cX11_gains 40 = .ok (.iconst 0, 1) := by decide +kernel
theorem dX11_gains_41 : decode cX11_gains 41 = .ok (.istore 6, 2) := by decide +kernel
theorem dX11_gains_43 : decode cX11_gains 43 = .ok (.iload 6, 2) := by decide +kernel
theorem dX11_gains_45 : decode cX11_gains 45 = .ok (.bipush 6, 2) := by decide +kernel
theorem dX11_gains_47 : decode cX11_gains 47 = .ok (.if_icmp .ge 24, 3) := by decide +kernel
theorem dX11_gains_50 : decode cX11_gains 50 = .ok (.aload_n 0, 1) := by decide +kernel
theorem dX11_gains_51 : decode cX11_gains 51 = .ok (.bipush 79, 2) := by decide +kernel
theorem dX11_gains_53 : decode cX11_gains 53 = .ok (.invokevirtual 341, 3) := by decide +kernel
theorem dX11_gains_56 : decode cX11_gains 56 = .ok (.iload 5, 2) := by decide +kernel
theorem dX11_gains_58 : decode cX11_gains 58 = .ok (.aload_n 0, 1) := by decide +kernel
theorem dX11_gains_59 : decode cX11_gains 59 = .ok (.getfield 323, 3) := by decide +kernel
theorem dX11_gains_62 : decode cX11_gains 62 = .ok (.ior, 1) := by decide +kernel
theorem dX11_gains_63 : decode cX11_gains 63 = .ok (.istore 5, 2) := by decide +kernel
theorem dX11_gains_65 : decode cX11_gains 65 = .ok (.iinc 6 1, 3) := by decide +kernel
theorem dX11_gains_68 : decode cX11_gains 68 = .ok (.goto (-25), 3) := by decide +kernel
theorem dX11_gains_71 : decode cX11_gains 71 = .ok (.iconst 2, 1) := by decide +kernel
theorem dX11_gains_72 : decode cX11_gains 72 = .ok (.aload_n 0, 1) := by decide +kernel
theorem dX11_gains_73 : decode cX11_gains 73 = .ok (.getfield 48, 3) := by decide +kernel
theorem dX11_gains_76 : decode cX11_gains 76 = .ok (.sipush 146, 3) := by decide +kernel
theorem dX11_gains_79 : decode cX11_gains 79 = .ok (.iload_n 1, 1) := by decide +kernel
theorem dX11_gains_80 : decode cX11_gains 80 = .ok (.iadd, 1) := by decide +kernel
theorem dX11_gains_81 : decode cX11_gains 81 = .ok (.iaload, 1) := by decide +kernel
theorem dX11_gains_82 : decode cX11_gains 82 = .ok (.aload_n 0, 1) := by decide +kernel
theorem dX11_gains_83 : decode cX11_gains 83 = .ok (.getfield 48, 3) := by decide +kernel
theorem dX11_gains_86 : decode cX11_gains 86 = .ok (.bipush 67, 2) := by decide +kernel
theorem dX11_gains_88 : decode cX11_gains 88 = .ok (.iload_n 1, 1) := by decide +kernel
theorem dX11_gains_89 : decode cX11_gains 89 = .ok (.iadd, 1) := by decide +kernel
theorem dX11_gains_90 : decode cX11_gains 90 = .ok (.iaload, 1) := by decide +kernel
theorem dX11_gains_91 : decode cX11_gains 91 = .ok (.isub, 1) := by decide +kernel
theorem dX11_gains_92 : decode cX11_gains 92 = .ok (.imul, 1) := by decide +kernel
theorem dX11_gains_93 : decode cX11_gains 93 = .ok (.iconst 5, 1) := by decide +kernel
theorem dX11_gains_94 : decode cX11_gains 94 = .ok (.iload 5, 2) := by decide +kernel
theorem dX11_gains_96 : decode cX11_gains 96 = .ok (.iload_n 1, 1) := by decide +kernel
theorem dX11_gains_97 : decode cX11_gains 97 = .ok (.ishr, 1) := by decide +kernel
theorem dX11_gains_98 : decode cX11_gains 98 = .ok (.iconst 1, 1) := by decide +kernel
theorem dX11_gains_99 : decode cX11_gains 99 = .ok (.iand, 1) := by decide +kernel
theorem dX11_gains_100 : decode cX11_gains 100 = .ok (.imul, 1) := by decide +kernel
theorem dX11_gains_101 : decode cX11_gains 101 = .ok (.iadd, 1) := by decide +kernel
theorem dX11_gains_102 : decode cX11_gains 102 = .ok (.ireturn, 1) := by decide +kernel
theorem dX11_game_0 : decode cX11_game 0 = .ok (.aload_n 0, 1) := by decide +kernel
theorem dX11_game_1 : decode cX11_game 1 = .ok (.iconst 0, 1) := by decide +kernel
theorem dX11_game_2 : decode cX11_game 2 = .ok (.putfield 99, 3) := by decide +kernel
theorem dX11_game_5 : decode cX11_game 5 = .ok (.aload_n 0, 1) := by decide +kernel
theorem dX11_game_6 : decode cX11_game 6 = .ok (.iload_n 1, 1) := by decide +kernel
theorem dX11_game_7 : decode cX11_game 7 = .ok (.invokevirtual 368, 3) := by decide +kernel
theorem dX11_game_10 : decode cX11_game 10 = .ok (.ifCond .eq 38, 3) := by decide +kernel
theorem dX11_game_13 : decode cX11_game 13 = .ok (.aload_n 0, 1) := by decide +kernel
theorem dX11_game_14 : decode cX11_game 14 = .ok (.iload_n 2, 1) := by decide +kernel
theorem dX11_game_15 : decode cX11_game 15 = .ok (.invokevirtual 368, 3) := by decide +kernel
theorem dX11_game_18 : decode cX11_game 18 = .ok (.ifCond .eq 30, 3) := by decide +kernel
theorem dX11_game_21 : decode cX11_game 21 = .ok (.aload_n 0, 1) := by decide +kernel
theorem dX11_game_22 : decode cX11_game 22 = .ok (.iload_n 3, 1) := by decide +kernel
theorem dX11_game_23 : decode cX11_game 23 = .ok (.iconst 1, 1) := by decide +kernel
theorem dX11_game_24 : decode cX11_game 24 = .ok (.invokevirtual 365, 3) := by decide +kernel
theorem dX11_game_27 : decode cX11_game 27 = .ok (.ifCond .eq 21, 3) := by decide +kernel
theorem dX11_game_30 : decode cX11_game 30 = .ok (.aload_n 0, 1) := by decide +kernel
theorem dX11_game_31 : decode cX11_game 31 = .ok (.iload_n 1, 1) := by decide +kernel
theorem dX11_game_32 : decode cX11_game 32 = .ok (.iload_n 2, 1) := by decide +kernel
theorem dX11_game_33 : decode cX11_game 33 = .ok (.if_icmp .eq 7, 3) := by decide +kernel
theorem dX11_game_36 : decode cX11_game 36 = .ok (.iconst 1, 1) := by decide +kernel
theorem dX11_game_37 : decode cX11_game 37 = .ok (.goto 4, 3) := by decide +kernel
theorem dX11_game_40 : decode cX11_game 40 = .ok (.iconst 0, 1) := by decide +kernel
theorem dX11_game_41 : decode cX11_game 41 = .ok (.iconst 2, 1) := by decide +kernel
theorem dX11_game_42 : decode cX11_game 42 = .ok (.invokevirtual 266, 3) := by decide +kernel
theorem dX11_game_45 : decode cX11_game 45 = .ok (.ifCond .ne 5, 3) := by decide +kernel
theorem dX11_game_48 : decode cX11_game 48 = .ok (.iconst 0, 1) := by decide +kernel
theorem dX11_game_49 : decode cX11_game 49 = .ok (.ireturn, 1) := by decide +kernel
theorem dX11_game_50 : decode cX11_game 50 = .ok (.aload_n 0, 1) := by decide +kernel
theorem dX11_game_51 : decode cX11_game 51 = .ok (.getfield 48, 3) := by decide +kernel
theorem dX11_game_54 : decode cX11_game 54 = .ok (.bipush 61, 2) := by decide +kernel
theorem dX11_game_56 : decode cX11_game 56 = .ok (.iload_n 1, 1) := by decide +kernel
theorem dX11_game_57 : decode cX11_game 57 = .ok (.iadd, 1) := by decide +kernel
theorem dX11_game_58 : decode cX11_game 58 = .ok (.iaload, 1) := by decide +kernel
theorem dX11_game_59 : decode cX11_game 59 = .ok (.iconst (-1), 1) := by decide +kernel
theorem dX11_game_60 : decode cX11_game 60 = .ok (.if_icmp .eq 16, 3) := by decide +kernel
theorem dX11_game_63 : decode cX11_game 63 = .ok (.aload_n 0, 1) := by decide +kernel
theorem dX11_game_64 : decode cX11_game 64 = .ok (.getfield 48, 3) := by decide +kernel
theorem dX11_game_67 : decode cX11_game 67 = .ok (.bipush 61, 2) := by decide +kernel
theorem dX11_game_69 : decode cX11_game 69 = .ok (.iload_n 2, 1) := by decide +kernel
theorem dX11_game_70 : decode cX11_game 70 = .ok (.iadd, 1) := by decide +kernel
theorem dX11_game_71 : decode cX11_game 71 = .ok (.iaload, 1) := by decide +kernel
theorem dX11_game_72 : decode cX11_game 72 = .ok (.iconst (-1), 1) := by decide +kernel
theorem dX11_game_73 : decode cX11_game 73 = .ok (.if_icmp .ne 5, 3) := by decide +kernel
theorem dX11_game_76 : decode cX11_game 76 = .ok (.iconst (-1), 1) := by decide +kernel
theorem dX11_game_77 : decode cX11_game 77 = .ok (.ireturn, 1) := by decide +kernel
theorem dX11_game_78 : decode cX11_game 78 = .ok (.iconst 0, 1) := by decide +kernel
theorem dX11_game_79 : decode cX11_game 79 = .ok (.istore 4, 2) := by decide +kernel
theorem dX11_game_81 : decode cX11_game 81 = .ok (.iconst (-1), 1) := by decide +kernel
theorem dX11_game_82 : decode cX11_game 82 = .ok (.istore 5, 2) := by decide +kernel
theorem dX11_game_84 : decode cX11_game 84 = .ok (.iconst 0, 1) := by decide +kernel
theorem dX11_game_85 : decode cX11_game 85 = .ok (.istore 6, 2) := by decide +kernel
theorem dX11_game_87 : decode cX11_game 87 = .ok (.iload 6, 2) := by decide +kernel
theorem dX11_game_89 : decode cX11_game 89 = .ok (.iconst 4, 1) := by decide +kernel
theorem dX11_game_90 : decode cX11_game 90 = .ok (.if_icmp .ge 93, 3) := by decide +kernel
theorem dX11_game_93 : decode cX11_game 93 = .ok (.iload 6, 2) := by decide +kernel
theorem dX11_game_95 : decode cX11_game 95 = .ok (.iconst 2, 1) := by decide +kernel
theorem dX11_game_96 : decode cX11_game 96 = .ok (.idiv, 1) := by decide +kernel
theorem dX11_game_97 : decode cX11_game 97 = .ok (.istore 7, 2) := by decide +kernel
theorem dX11_game_99 : decode cX11_game 99 = .ok (.iload 6, 2) := by decide +kernel
theorem dX11_game_101 : decode cX11_game 101 = .ok (.iconst 2, 1) := by decide +kernel
theorem dX11_game_102 : decode cX11_game 102 = .ok (.irem, 1) := by decide +kernel
theorem dX11_game_103 : decode cX11_game 103 = .ok (.istore 8, 2) := by decide +kernel
theorem dX11_game_105 : decode cX11_game 105 = .ok (.aload_n 0, 1) := by decide +kernel
theorem dX11_game_106 : decode cX11_game 106 = .ok (.iload_n 1, 1) := by decide +kernel
theorem dX11_game_107 : decode cX11_game 107 = .ok (.iload_n 2, 1) := by decide +kernel
theorem dX11_game_108 : decode cX11_game 108 = .ok (.iconst 1, 1) := by decide +kernel
theorem dX11_game_109 : decode cX11_game 109 = .ok (.iload 7, 2) := by decide +kernel
theorem dX11_game_111 : decode cX11_game 111 = .ok (.isub, 1) := by decide +kernel
theorem dX11_game_112 : decode cX11_game 112 = .ok (.iload 8, 2) := by decide +kernel
theorem dX11_game_114 : decode cX11_game 114 = .ok (.invokevirtual 425, 3) := by decide +kernel
theorem dX11_game_117 : decode cX11_game 117 = .ok (.aload_n 0, 1) := by decide +kernel
theorem dX11_game_118 : decode cX11_game 118 = .ok (.iload_n 1, 1) := by decide +kernel
theorem dX11_game_119 : decode cX11_game 119 = .ok (.iload_n 2, 1) := by decide +kernel
theorem dX11_game_120 : decode cX11_game 120 = .ok (.iload 7, 2) := by decide +kernel
theorem dX11_game_122 : decode cX11_game 122 = .ok (.iload 8, 2) := by decide +kernel
theorem dX11_game_124 : decode cX11_game 124 = .ok (.invokevirtual 425, 3) := by decide +kernel
theorem dX11_game_127 : decode cX11_game 127 = .ok (.if_icmp .gt 50, 3) := by decide +kernel
theorem dX11_game_130 : decode cX11_game 130 = .ok (.aload_n 0, 1) := by decide +kernel
theorem dX11_game_131 : decode cX11_game 131 = .ok (.iload_n 2, 1) := by decide +kernel
theorem dX11_game_132 : decode cX11_game 132 = .ok (.iload_n 1, 1) := by decide +kernel
theorem dX11_game_133 : decode cX11_game 133 = .ok (.iconst 1, 1) := by decide +kernel
theorem dX11_game_134 : decode cX11_game 134 = .ok (.iload 8, 2) := by decide +kernel
theorem dX11_game_136 : decode cX11_game 136 = .ok (.isub, 1) := by decide +kernel
theorem dX11_game_137 : decode cX11_game 137 = .ok (.iload 7, 2) := by decide +kernel
theorem dX11_game_139 : decode cX11_game 139 = .ok (.invokevirtual 425, 3) := by decide +kernel
theorem dX11_game_142 : decode cX11_game 142 = .ok (.aload_n 0, 1) := by decide +kernel
theorem dX11_game_143 : decode cX11_game 143 = .ok (.iload_n 2, 1) := by decide +kernel
theorem dX11_game_144 : decode cX11_game 144 = .ok (.iload_n 1, 1) := by decide +kernel
theorem dX11_game_145 : decode cX11_game 145 = .ok (.iload 8, 2) := by decide +kernel
theorem dX11_game_147 : decode cX11_game 147 = .ok (.iload 7, 2) := by decide +kernel
theorem dX11_game_149 : decode cX11_game 149 = .ok (.invokevirtual 425, 3) := by decide +kernel
theorem dX11_game_152 : decode cX11_game 152 = .ok (.if_icmp .le 6, 3) := by decide +kernel
theorem dX11_game_155 : decode cX11_game 155 = .ok (.goto 22, 3) := by decide +kernel
theorem dX11_game_158 : decode cX11_game 158 = .ok (.iinc 4 1, 3) := by decide +kernel
theorem dX11_game_161 : decode cX11_game 161 = .ok (.iload 5, 2) := by decide +kernel
theorem dX11_game_163 : decode cX11_game 163 = .ok (.iconst (-1), 1) := by decide +kernel
theorem dX11_game_164 : decode cX11_game 164 = .ok (.if_icmp .ne 13, 3) := by decide +kernel
theorem dX11_game_167 : decode cX11_game 167 = .ok (.bipush 10, 2) := by decide +kernel
theorem dX11_game_169 : decode cX11_game 169 = .ok (.iload 7, 2) := by decide +kernel
theorem dX11_game_171 : decode cX11_game 171 = .ok (.imul, 1) := by decide +kernel
theorem dX11_game_172 : decode cX11_game 172 = .ok (.iload 8, 2) := by decide +kernel
theorem dX11_game_174 : decode cX11_game 174 = .ok (.iadd, 1) := by decide +kernel
theorem dX11_game_175 : decode cX11_game 175 = .ok (.istore 5, 2) := by decide +kernel
theorem dX11_game_177 : decode cX11_game 177 = .ok (.iinc 6 1, 3) := by decide +kernel
theorem dX11_game_180 : decode cX11_game 180 = .ok (.goto (-93), 3) := by decide +kernel
theorem dX11_game_183 : decode cX11_game 183 = .ok (.iload_n 3, 1) := by decide +kernel
theorem dX11_game_184 : decode cX11_game 184 = .ok (.ifCond .ne 8, 3) := by decide +kernel
theorem dX11_game_187 : decode cX11_game 187 = .ok (.iload 4, 2) := by decide +kernel
theorem dX11_game_189 : decode cX11_game 189 = .ok (.goto 5, 3) := by decide +kernel
theorem dX11_game_192 : decode cX11_game 192 = .ok (.iload 5, 2) := by decide +kernel
theorem dX11_game_194 : decode cX11_game 194 = .ok (.ireturn, 1) := by decide +kernel
theorem dX11_draw_0 : decode cX11_draw 0 = .ok (.aload_n 0, 1) := by decide +kernel
theorem dX11_draw_1 : decode cX11_draw 1 = .ok (.aload_n 0, 1) := by decide +kernel
theorem dX11_draw_2 : decode cX11_draw 2 = .ok (.getfield 429, 3) := by decide +kernel
theorem dX11_draw_5 : decode cX11_draw 5 = .ok (.ldc_w 432, 3) := by decide +kernel
theorem dX11_draw_8 : decode cX11_draw 8 = .ok (.imul, 1) := by decide +kernel
theorem dX11_draw_9 : decode cX11_draw 9 = .ok (.sipush 12345, 3) := by decide +kernel
theorem dX11_draw_12 : decode cX11_draw 12 = .ok (.iadd, 1) := by decide +kernel
theorem dX11_draw_13 : decode cX11_draw 13 = .ok (.putfield 429, 3) := by decide +kernel
theorem dX11_draw_16 : decode cX11_draw 16 = .ok (.aload_n 0, 1) := by decide +kernel
theorem dX11_draw_17 : decode cX11_draw 17 = .ok (.getfield 429, 3) := by decide +kernel
theorem dX11_draw_20 : decode cX11_draw 20 = .ok (.bipush 16, 2) := by decide +kernel
theorem dX11_draw_22 : decode cX11_draw 22 = .ok (.ishr, 1) := by decide +kernel
theorem dX11_draw_23 : decode cX11_draw 23 = .ok (.sipush 32767, 3) := by decide +kernel
theorem dX11_draw_26 : decode cX11_draw 26 = .ok (.iand, 1) := by decide +kernel
theorem dX11_draw_27 : decode cX11_draw 27 = .ok (.iload_n 1, 1) := by decide +kernel
theorem dX11_draw_28 : decode cX11_draw 28 = .ok (.irem, 1) := by decide +kernel
theorem dX11_draw_29 : decode cX11_draw 29 = .ok (.ireturn, 1) := by decide +kernel
theorem dX11_drawPlace_0 : decode cX11_drawPlace 0 = .ok (.aload_n 0, 1) := by decide +kernel
theorem dX11_drawPlace_1 : decode cX11_drawPlace 1 = .ok (.aload_n 0, 1) := by decide +kernel
theorem dX11_drawPlace_2 : decode cX11_drawPlace 2 = .ok (.getfield 273, 3) := by decide +kernel
theorem dX11_drawPlace_5 : decode cX11_drawPlace 5 = .ok (.invokevirtual 433, 3) := by decide +kernel
theorem dX11_drawPlace_8 : decode cX11_drawPlace 8 = .ok (.istore_n 1, 1) := by decide +kernel
theorem dX11_drawPlace_9 : decode cX11_drawPlace 9 = .ok (.bipush 8, 2) := by decide +kernel
theorem dX11_drawPlace_11 : decode cX11_drawPlace 11 = .ok (.iload_n 1, 1) := by decide +kernel
theorem dX11_drawPlace_12 : decode cX11_drawPlace 12 = .ok (.imul, 1) := by decide +kernel
theorem dX11_drawPlace_13 : decode cX11_drawPlace 13 = .ok (.aload_n 0, 1) := by decide +kernel
theorem dX11_drawPlace_14 : decode cX11_drawPlace 14 = .ok (.aload_n 0, 1) := by decide +kernel
theorem dX11_drawPlace_15 : decode cX11_drawPlace 15 = .ok (.getfield 16, 3) := by decide +kernel
theorem dX11_drawPlace_18 : decode cX11_drawPlace 18 = .ok (.iload_n 1, 1) := by decide +kernel
theorem dX11_drawPlace_19 : decode cX11_drawPlace 19 = .ok (.iaload, 1) := by decide +kernel
theorem dX11_drawPlace_20 : decode cX11_drawPlace 20 = .ok (.invokevirtual 433, 3) := by decide +kernel
theorem dX11_drawPlace_23 : decode cX11_drawPlace 23 = .ok (.iadd, 1) := by decide +kernel
theorem dX11_drawPlace_24 : decode cX11_drawPlace 24 = .ok (.ireturn, 1) := by decide +kernel
theorem dX11_happens_0 : decode cX11_happens 0 = .ok (.aload_n 0, 1) := by decide +kernel
theorem dX11_happens_1 : decode cX11_happens 1 = .ok (.iconst 5, 1) := by decide +kernel
theorem dX11_happens_2 : decode cX11_happens 2 = .ok (.invokevirtual 433, 3) := by decide +kernel
theorem dX11_happens_5 : decode cX11_happens 5 = .ok (.istore_n 1, 1) := by decide +kernel
theorem dX11_happens_6 : decode cX11_happens 6 = .ok (.iload_n 1, 1) := by decide +kernel
theorem dX11_happens_7 : decode cX11_happens 7 = .ok (.iconst 1, 1) := by decide +kernel
theorem dX11_happens_8 : decode cX11_happens 8 = .ok (.if_icmp .gt 21, 3) := by decide +kernel
theorem dX11_happens_11 : decode cX11_happens 11 = .ok (.aload_n 0, 1) := by decide +kernel
theorem dX11_happens_12 : decode cX11_happens 12 = .ok (.getfield 273, 3) := by decide +kernel
theorem dX11_happens_15 : decode cX11_happens 15 = .ok (.ifCond .eq 14, 3) := by decide +kernel
theorem dX11_happens_18 : decode cX11_happens 18 = .ok (.iload_n 1, 1) := by decide +kernel
theorem dX11_happens_19 : decode cX11_happens 19 = .ok (.ifCond .ne 11, 3) := by decide +kernel
theorem dX11_happens_22 : decode cX11_happens 22 = .ok (.aload_n 0, 1) := by decide +kernel
theorem dX11_happens_23 : decode cX11_happens 23 = .ok (.getfield 276, 3) := by decide +kernel
theorem dX11_happens_26 : decode cX11_happens 26 = .ok (.ifCond .ne 4, 3) := by decide +kernel
theorem dX11_happens_29 : decode cX11_happens 29 = .ok (.return_, 1) := by decide +kernel
theorem dX11_happens_30 : decode cX11_happens 30 = .ok (.iload_n 1, 1) := by decide +kernel
theorem dX11_happens_31 : decode cX11_happens 31 = .ok (.ifCond .ne 29, 3) := by decide +kernel
theorem dX11_happens_34 : decode cX11_happens 34 = .ok (.aload_n 0, 1) := by decide +kernel
theorem dX11_happens_35 : decode cX11_happens 35 = .ok (.aload_n 0, 1) := by decide +kernel
theorem dX11_happens_36 : decode cX11_happens 36 = .ok (.getfield 276, 3) := by decide +kernel
theorem dX11_happens_39 : decode cX11_happens 39 = .ok (.invokevirtual 433, 3) := by decide +kernel
theorem dX11_happens_42 : decode cX11_happens 42 = .ok (.istore_n 2, 1) := by decide +kernel
theorem dX11_happens_43 : decode cX11_happens 43 = .ok (.aload_n 0, 1) := by decide +kernel
theorem dX11_happens_44 : decode cX11_happens 44 = .ok (.getfield 48, 3) := by decide +kernel
theorem dX11_happens_47 : decode cX11_happens 47 = .ok (.sipush 140, 3) := by decide +kernel
theorem dX11_happens_50 : decode cX11_happens 50 = .ok (.iload_n 2, 1) := by decide +kernel
theorem dX11_happens_51 : decode cX11_happens 51 = .ok (.iadd, 1) := by decide +kernel
theorem dX11_happens_52 : decode cX11_happens 52 = .ok (.aload_n 0, 1) := by decide +kernel
theorem dX11_happens_53 : decode cX11_happens 53 = .ok (.invokevirtual 436, 3) := by decide +kernel
theorem dX11_happens_56 : decode cX11_happens 56 = .ok (.iastore, 1) := by decide +kernel
theorem dX11_happens_57 : decode cX11_happens 57 = .ok (.goto 22, 3) := by decide +kernel
theorem dX11_happens_60 : decode cX11_happens 60 = .ok (.aload_n 0, 1) := by decide +kernel
theorem dX11_happens_61 : decode cX11_happens 61 = .ok (.invokevirtual 436, 3) := by decide +kernel
theorem dX11_happens_64 : decode cX11_happens 64 = .ok (.istore_n 2, 1) := by decide +kernel
theorem dX11_happens_65 : decode cX11_happens 65 = .ok (.aload_n 0, 1) := by decide +kernel
theorem dX11_happens_66 : decode cX11_happens 66 = .ok (.getfield 48, 3) := by decide +kernel
theorem dX11_happens_69 : decode cX11_happens 69 = .ok (.bipush 80, 2) := by decide +kernel
theorem dX11_happens_71 : decode cX11_happens 71 = .ok (.iload_n 2, 1) := by decide +kernel
theorem dX11_happens_72 : decode cX11_happens 72 = .ok (.iadd, 1) := by decide +kernel
theorem dX11_happens_73 : decode cX11_happens 73 = .ok (.aload_n 0, 1) := by decide +kernel
theorem dX11_happens_74 : decode cX11_happens 74 = .ok (.iconst 4, 1) := by decide +kernel
theorem dX11_happens_75 : decode cX11_happens 75 = .ok (.invokevirtual 433, 3) := by decide +kernel
theorem dX11_happens_78 : decode cX11_happens 78 = .ok (.iastore, 1) := by decide +kernel
theorem dX11_happens_79 : decode cX11_happens 79 = .ok (.return_, 1) := by decide +kernel
theorem dX11_bits_0 : decode cX11_bits 0 = .ok (.iconst 0, 1) := by decide +kernel
theorem dX11_bits_1 : decode cX11_bits 1 = .ok (.istore_n 1, 1) := by decide +kernel
theorem dX11_bits_2 : decode cX11_bits 2 = .ok (.iconst 0, 1) := by decide +kernel
theorem dX11_bits_3 : decode cX11_bits 3 = .ok (.istore_n 2, 1) := by decide +kernel
theorem dX11_bits_4 : decode cX11_bits 4 = .ok (.iload_n 2, 1) := by decide +kernel
theorem dX11_bits_5 : decode cX11_bits 5 = .ok (.bipush 6, 2) := by decide +kernel
theorem dX11_bits_7 : decode cX11_bits 7 = .ok (.if_icmp .ge 17, 3) := by decide +kernel
theorem dX11_bits_10 : decode cX11_bits 10 = .ok (.iload_n 1, 1) := by decide +kernel
theorem dX11_bits_11 : decode cX11_bits 11 = .ok (.iload_n 0, 1) := by decide +kernel
theorem dX11_bits_12 : decode cX11_bits 12 = .ok (.iload_n 2, 1) := by decide +kernel
theorem dX11_bits_13 : decode cX11_bits 13 = .ok (.ishr, 1) := by decide +kernel
theorem dX11_bits_14 : decode cX11_bits 14 = .ok (.iconst 1, 1) := by decide +kernel
theorem dX11_bits_15 : decode cX11_bits 15 = .ok (.iand, 1) := by decide +kernel
theorem dX11_bits_16 : decode cX11_bits 16 = .ok (.iadd, 1) := by decide +kernel
theorem dX11_bits_17 : decode cX11_bits 17 = .ok (.istore_n 1, 1) := by decide +kernel
theorem dX11_bits_18 : decode cX11_bits 18 = .ok (.iinc 2 1, 3) := by decide +kernel
theorem dX11_bits_21 : decode cX11_bits 21 = .ok (.goto (-17), 3) := by decide +kernel
theorem dX11_bits_24 : decode cX11_bits 24 = .ok (.iload_n 1, 1) := by decide +kernel
theorem dX11_bits_25 : decode cX11_bits 25 = .ok (.ireturn, 1) := by decide +kernel
theorem dX11_years_0 : decode cX11_years 0 = .ok (.aload_n 0, 1) := by decide +kernel
theorem dX11_years_1 : decode cX11_years 1 = .ok (.iconst 0, 1) := by decide +kernel
theorem dX11_years_2 : decode cX11_years 2 = .ok (.putfield 99, 3) := by decide +kernel
theorem dX11_years_5 : decode cX11_years 5 = .ok (.aload_n 0, 1) := by decide +kernel
theorem dX11_years_6 : decode cX11_years 6 = .ok (.iload_n 3, 1) := by decide +kernel
theorem dX11_years_7 : decode cX11_years 7 = .ok (.iconst 2, 1) := by decide +kernel
theorem dX11_years_8 : decode cX11_years 8 = .ok (.invokevirtual 365, 3) := by decide +kernel
theorem dX11_years_11 : decode cX11_years 11 = .ok (.ifCond .eq 13, 3) := by decide +kernel
theorem dX11_years_14 : decode cX11_years 14 = .ok (.aload_n 0, 1) := by decide +kernel
theorem dX11_years_15 : decode cX11_years 15 = .ok (.iload_n 2, 1) := by decide +kernel
theorem dX11_years_16 : decode cX11_years 16 = .ok (.iconst 0, 1) := by decide +kernel
theorem dX11_years_17 : decode cX11_years 17 = .ok (.iconst 2, 1) := by decide +kernel
theorem dX11_years_18 : decode cX11_years 18 = .ok (.invokevirtual 395, 3) := by decide +kernel
theorem dX11_years_21 : decode cX11_years 21 = .ok (.ifCond .ne 5, 3) := by decide +kernel
theorem dX11_years_24 : decode cX11_years 24 = .ok (.iconst 0, 1) := by decide +kernel
theorem dX11_years_25 : decode cX11_years 25 = .ok (.ireturn, 1) := by decide +kernel
theorem dX11_years_26 : decode cX11_years 26 = .ok (.aload_n 0, 1) := by decide +kernel
theorem dX11_years_27 : decode cX11_years 27 = .ok (.invokevirtual 389, 3) := by decide +kernel
theorem dX11_years_30 : decode cX11_years 30 = .ok (.aload_n 0, 1) := by decide +kernel
theorem dX11_years_31 : decode cX11_years 31 = .ok (.iload_n 1, 1) := by decide +kernel
theorem dX11_years_32 : decode cX11_years 32 = .ok (.putfield 429, 3) := by decide +kernel
theorem dX11_years_35 : decode cX11_years 35 = .ok (.iconst 0, 1) := by decide +kernel
theorem dX11_years_36 : decode cX11_years 36 = .ok (.istore 4, 2) := by decide +kernel
theorem dX11_years_38 : decode cX11_years 38 = .ok (.iconst 0, 1) := by decide +kernel
theorem dX11_years_39 : decode cX11_years 39 = .ok (.istore 5, 2) := by decide +kernel
theorem dX11_years_41 : decode cX11_years 41 = .ok (.iload 5, 2) := by decide +kernel
theorem dX11_years_43 : decode cX11_years 43 = .ok (.iload_n 2, 1) := by decide +kernel
theorem dX11_years_44 : decode cX11_years 44 = .ok (.if_icmp .ge 31, 3) := by decide +kernel
theorem dX11_years_47 : decode cX11_years 47 = .ok (.aload_n 0, 1) := by decide +kernel
theorem dX11_years_48 : decode cX11_years 48 = .ok (.invokevirtual 439, 3) := by decide +kernel
theorem dX11_years_51 : decode cX11_years 51 = .ok (.aload_n 0, 1) := by decide +kernel
theorem dX11_years_52 : decode cX11_years 52 = .ok (.bipush 79, 2) := by decide +kernel
theorem dX11_years_54 : decode cX11_years 54 = .ok (.invokevirtual 341, 3) := by decide +kernel
theorem dX11_years_57 : decode cX11_years 57 = .ok (.iload 4, 2) := by decide +kernel
theorem dX11_years_59 : decode cX11_years 59 = .ok (.aload_n 0, 1) := by decide +kernel
theorem dX11_years_60 : decode cX11_years 60 = .ok (.getfield 323, 3) := by decide +kernel
theorem dX11_years_63 : decode cX11_years 63 = .ok (.invokestatic 442, 3) := by decide +kernel
theorem dX11_years_66 : decode cX11_years 66 = .ok (.iadd, 1) := by decide +kernel
theorem dX11_years_67 : decode cX11_years 67 = .ok (.istore 4, 2) := by decide +kernel
theorem dX11_years_69 : decode cX11_years 69 = .ok (.iinc 5 1, 3) := by decide +kernel
theorem dX11_years_72 : decode cX11_years 72 = .ok (.goto (-31), 3) := by decide +kernel
theorem dX11_years_75 : decode cX11_years 75 = .ok (.iload_n 3, 1) := by decide +kernel
theorem dX11_years_76 : decode cX11_years 76 = .ok (.ifCond .ne 8, 3) := by decide +kernel
theorem dX11_years_79 : decode cX11_years 79 = .ok (.iload 4, 2) := by decide +kernel
theorem dX11_years_81 : decode cX11_years 81 = .ok (.goto 29, 3) := by decide +kernel
theorem dX11_years_84 : decode cX11_years 84 = .ok (.iload_n 3, 1) := by decide +kernel
theorem dX11_years_85 : decode cX11_years 85 = .ok (.iconst 1, 1) := by decide +kernel
theorem dX11_years_86 : decode cX11_years 86 = .ok (.if_icmp .ne 18, 3) := by decide +kernel
theorem dX11_years_89 : decode cX11_years 89 = .ok (.aload_n 0, 1) := by decide +kernel
theorem dX11_years_90 : decode cX11_years 90 = .ok (.bipush 79, 2) := by decide +kernel
theorem dX11_years_92 : decode cX11_years 92 = .ok (.invokevirtual 359, 3) := by decide +kernel
theorem dX11_years_95 : decode cX11_years 95 = .ok (.aload_n 0, 1) := by decide +kernel
theorem dX11_years_96 : decode cX11_years 96 = .ok (.iconst 0, 1) := by decide +kernel
theorem dX11_years_97 : decode cX11_years 97 = .ok (.invokevirtual 359, 3) := by decide +kernel
theorem dX11_years_100 : decode cX11_years 100 = .ok (.isub, 1) := by decide +kernel
theorem dX11_years_101 : decode cX11_years 101 = .ok (.goto 9, 3) := by decide +kernel
theorem dX11_years_104 : decode cX11_years 104 = .ok (.aload_n 0, 1) := by decide +kernel
theorem dX11_years_105 : decode cX11_years 105 = .ok (.bipush 79, 2) := by decide +kernel
theorem dX11_years_107 : decode cX11_years 107 = .ok (.invokevirtual 353, 3) := by decide +kernel
theorem dX11_years_110 : decode cX11_years 110 = .ok (.ireturn, 1) := by decide +kernel
theorem dX11_image_0 : decode cX11_image 0 = .ok (.aload_n 0, 1) := by decide +kernel
theorem dX11_image_1 : decode cX11_image 1 = .ok (.iconst 0, 1) := by decide +kernel
theorem dX11_image_2 : decode cX11_image 2 = .ok (.putfield 99, 3) := by decide +kernel
theorem dX11_image_5 : decode cX11_image 5 = .ok (.aload_n 0, 1) := by decide +kernel
theorem dX11_image_6 : decode cX11_image 6 = .ok (.iconst 1, 1) := by decide +kernel
theorem dX11_image_7 : decode cX11_image 7 = .ok (.putfield 289, 3) := by decide +kernel
theorem dX11_image_10 : decode cX11_image 10 = .ok (.aload_n 0, 1) := by decide +kernel
theorem dX11_image_11 : decode cX11_image 11 = .ok (.aload_n 0, 1) := by decide +kernel
theorem dX11_image_12 : decode cX11_image 12 = .ok (.getfield 283, 3) := by decide +kernel
theorem dX11_image_15 : decode cX11_image 15 = .ok (.putfield 445, 3) := by decide +kernel
theorem dX11_image_18 : decode cX11_image 18 = .ok (.aload_n 0, 1) := by decide +kernel
theorem dX11_image_19 : decode cX11_image 19 = .ok (.aload_n 0, 1) := by decide +kernel
theorem dX11_image_20 : decode cX11_image 20 = .ok (.getfield 286, 3) := by decide +kernel
theorem dX11_image_23 : decode cX11_image 23 = .ok (.putfield 448, 3) := by decide +kernel
theorem dX11_image_26 : decode cX11_image 26 = .ok (.iconst 0, 1) := by decide +kernel
theorem dX11_image_27 : decode cX11_image 27 = .ok (.istore_n 1, 1) := by decide +kernel
theorem dX11_image_28 : decode cX11_image 28 = .ok (.iload_n 1, 1) := by decide +kernel
theorem dX11_image_29 : decode cX11_image 29 = .ok (.bipush 79, 2) := by decide +kernel
theorem dX11_image_31 : decode cX11_image 31 = .ok (.if_icmp .ge 21, 3) := by decide +kernel
theorem dX11_image_34 : decode cX11_image 34 = .ok (.aload_n 0, 1) := by decide +kernel
theorem dX11_image_35 : decode cX11_image 35 = .ok (.getfield 90, 3) := by decide +kernel
theorem dX11_image_38 : decode cX11_image 38 = .ok (.iload_n 1, 1) := by decide +kernel
theorem dX11_image_39 : decode cX11_image 39 = .ok (.aload_n 0, 1) := by decide +kernel
theorem dX11_image_40 : decode cX11_image 40 = .ok (.getfield 48, 3) := by decide +kernel
theorem dX11_image_43 : decode cX11_image 43 = .ok (.iload_n 1, 1) := by decide +kernel
theorem dX11_image_44 : decode cX11_image 44 = .ok (.iaload, 1) := by decide +kernel
theorem dX11_image_45 : decode cX11_image 45 = .ok (.iastore, 1) := by decide +kernel
theorem dX11_image_46 : decode cX11_image 46 = .ok (.iinc 1 1, 3) := by decide +kernel
theorem dX11_image_49 : decode cX11_image 49 = .ok (.goto (-21), 3) := by decide +kernel
theorem dX11_image_52 : decode cX11_image 52 = .ok (.aload_n 0, 1) := by decide +kernel
theorem dX11_image_53 : decode cX11_image 53 = .ok (.aload_n 0, 1) := by decide +kernel
theorem dX11_image_54 : decode cX11_image 54 = .ok (.getfield 51, 3) := by decide +kernel
theorem dX11_image_57 : decode cX11_image 57 = .ok (.aload_n 0, 1) := by decide +kernel
theorem dX11_image_58 : decode cX11_image 58 = .ok (.getfield 93, 3) := by decide +kernel
theorem dX11_image_61 : decode cX11_image 61 = .ok (.invokevirtual 279, 3) := by decide +kernel
theorem dX11_image_64 : decode cX11_image 64 = .ok (.aload_n 0, 1) := by decide +kernel
theorem dX11_image_65 : decode cX11_image 65 = .ok (.aload_n 0, 1) := by decide +kernel
theorem dX11_image_66 : decode cX11_image 66 = .ok (.getfield 81, 3) := by decide +kernel
theorem dX11_image_69 : decode cX11_image 69 = .ok (.aload_n 0, 1) := by decide +kernel
theorem dX11_image_70 : decode cX11_image 70 = .ok (.getfield 96, 3) := by decide +kernel
theorem dX11_image_73 : decode cX11_image 73 = .ok (.invokevirtual 279, 3) := by decide +kernel
theorem dX11_image_76 : decode cX11_image 76 = .ok (.return_, 1) := by decide +kernel
theorem dX11_restore_0 : decode cX11_restore 0 = .ok (.aload_n 0, 1) := by decide +kernel
theorem dX11_restore_1 : decode cX11_restore 1 = .ok (.iconst 0, 1) := by decide +kernel
theorem dX11_restore_2 : decode cX11_restore 2 = .ok (.putfield 99, 3) := by decide +kernel
theorem dX11_restore_5 : decode cX11_restore 5 = .ok (.aload_n 0, 1) := by decide +kernel
theorem dX11_restore_6 : decode cX11_restore 6 = .ok (.getfield 289, 3) := by decide +kernel
theorem dX11_restore_9 : decode cX11_restore 9 = .ok (.ifCond .ne 5, 3) := by decide +kernel
theorem dX11_restore_12 : decode cX11_restore 12 = .ok (.iconst 0, 1) := by decide +kernel
theorem dX11_restore_13 : decode cX11_restore 13 = .ok (.ireturn, 1) := by decide +kernel
theorem dX11_restore_14 : decode cX11_restore 14 = .ok (.aload_n 0, 1) := by decide +kernel
theorem dX11_restore_15 : decode cX11_restore 15 = .ok (.aload_n 0, 1) := by decide +kernel
theorem dX11_restore_16 : decode cX11_restore 16 = .ok (.getfield 445, 3) := by decide +kernel
theorem dX11_restore_19 : decode cX11_restore 19 = .ok (.putfield 283, 3) := by decide +kernel
theorem dX11_restore_22 : decode cX11_restore 22 = .ok (.aload_n 0, 1) := by decide +kernel
theorem dX11_restore_23 : decode cX11_restore 23 = .ok (.aload_n 0, 1) := by decide +kernel
theorem dX11_restore_24 : decode cX11_restore 24 = .ok (.getfield 448, 3) := by decide +kernel
theorem dX11_restore_27 : decode cX11_restore 27 = .ok (.putfield 286, 3) := by decide +kernel
theorem dX11_restore_30 : decode cX11_restore 30 = .ok (.iconst 0, 1) := by decide +kernel
theorem dX11_restore_31 : decode cX11_restore 31 = .ok (.istore_n 1, 1) := by decide +kernel
theorem dX11_restore_32 : decode cX11_restore 32 = .ok (.iload_n 1, 1) := by decide +kernel
theorem dX11_restore_33 : decode cX11_restore 33 = .ok (.bipush 79, 2) := by decide +kernel
theorem dX11_restore_35 : decode cX11_restore 35 = .ok (.if_icmp .ge 21, 3) := by decide +kernel
theorem dX11_restore_38 : decode cX11_restore 38 = .ok (.aload_n 0, 1) := by decide +kernel
theorem dX11_restore_39 : decode cX11_restore 39 = .ok (.getfield 48, 3) := by decide +kernel
theorem dX11_restore_42 : decode cX11_restore 42 = .ok (.iload_n 1, 1) := by decide +kernel
theorem dX11_restore_43 : decode cX11_restore 43 = .ok (.aload_n 0, 1) := by decide +kernel
theorem dX11_restore_44 : decode cX11_restore 44 = .ok (.getfield 90, 3) := by decide +kernel
theorem dX11_restore_47 : decode cX11_restore 47 = .ok (.iload_n 1, 1) := by decide +kernel
theorem dX11_restore_48 : decode cX11_restore 48 = .ok (.iaload, 1) := by decide +kernel
theorem dX11_restore_49 : decode cX11_restore 49 = .ok (.iastore, 1) := by decide +kernel
theorem dX11_restore_50 : decode cX11_restore 50 = .ok (.iinc 1 1, 3) := by decide +kernel
theorem dX11_restore_53 : decode cX11_restore 53 = .ok (.goto (-21), 3) := by decide +kernel
theorem dX11_restore_56 : decode cX11_restore 56 = .ok (.aload_n 0, 1) := by decide +kernel
theorem dX11_restore_57 : decode cX11_restore 57 = .ok (.aload_n 0, 1) := by decide +kernel
theorem dX11_restore_58 : decode cX11_restore 58 = .ok (.getfield 93, 3) := by decide +kernel
theorem dX11_restore_61 : decode cX11_restore 61 = .ok (.aload_n 0, 1) := by decide +kernel
theorem dX11_restore_62 : decode cX11_restore 62 = .ok (.getfield 51, 3) := by decide +kernel
theorem dX11_restore_65 : decode cX11_restore 65 = .ok (.invokevirtual 279, 3) := by decide +kernel
theorem dX11_restore_68 : decode cX11_restore 68 = .ok (.aload_n 0, 1) := by decide +kernel
theorem dX11_restore_69 : decode cX11_restore 69 = .ok (.aload_n 0, 1) := by decide +kernel
theorem dX11_restore_70 : decode cX11_restore 70 = .ok (.getfield 96, 3) := by decide +kernel
theorem dX11_restore_73 : decode cX11_restore 73 = .ok (.aload_n 0, 1) := by decide +kernel
theorem dX11_restore_74 : decode cX11_restore 74 = .ok (.getfield 81, 3) := by decide +kernel
theorem dX11_restore_77 : decode cX11_restore 77 = .ok (.invokevirtual 279, 3) := by decide +kernel
theorem dX11_restore_80 : decode cX11_restore 80 = .ok (.iconst 1, 1) := by decide +kernel
theorem dX11_restore_81 : decode cX11_restore 81 = .ok (.ireturn, 1) := by decide +kernel
theorem dJ13_bitCount_95d88_0 : decode cJ13_bitCount_95d88 0 = .ok (.lload_n 0, 1) := by decide +kernel
theorem dJ13_bitCount_95d88_1 : decode cJ13_bitCount_95d88 1 = .ok (.lload_n 0, 1) := by decide +kernel
theorem dJ13_bitCount_95d88_2 : decode cJ13_bitCount_95d88 2 = .ok (.iconst 1, 1) := by decide +kernel
theorem dJ13_bitCount_95d88_3 : decode cJ13_bitCount_95d88 3 = .ok (.lushr, 1) := by decide +kernel
theorem dJ13_bitCount_95d88_4 : decode cJ13_bitCount_95d88 4 = .ok (.ldc2_w 314, 3) := by decide +kernel
theorem dJ13_bitCount_95d88_7 : decode cJ13_bitCount_95d88 7 = .ok (.land, 1) := by decide +kernel
theorem dJ13_bitCount_95d88_8 : decode cJ13_bitCount_95d88 8 = .ok (.lsub, 1) := by decide +kernel
theorem dJ13_bitCount_95d88_9 : decode cJ13_bitCount_95d88 9 = .ok (.lstore_n 0, 1) := by decide +kernel
theorem dJ13_bitCount_95d88_10 : decode cJ13_bitCount_95d88 10 = .ok (.lload_n 0, 1) := by decide +kernel
theorem dJ13_bitCount_95d88_11 : decode cJ13_bitCount_95d88 11 = .ok (.ldc2_w 316, 3) := by decide +kernel
theorem dJ13_bitCount_95d88_14 : decode cJ13_bitCount_95d88 14 = .ok (.land, 1) := by decide +kernel
theorem dJ13_bitCount_95d88_15 : decode cJ13_bitCount_95d88 15 = .ok (.lload_n 0, 1) := by decide +kernel
theorem dJ13_bitCount_95d88_16 : decode cJ13_bitCount_95d88 16 = .ok (.iconst 2, 1) := by decide +kernel
theorem dJ13_bitCount_95d88_17 : decode cJ13_bitCount_95d88 17 = .ok (.lushr, 1) := by decide +kernel
theorem dJ13_bitCount_95d88_18 : decode cJ13_bitCount_95d88 18 = .ok (.ldc2_w 316, 3) := by decide +kernel
theorem dJ13_bitCount_95d88_21 : decode cJ13_bitCount_95d88 21 = .ok (.land, 1) := by decide +kernel
theorem dJ13_bitCount_95d88_22 : decode cJ13_bitCount_95d88 22 = .ok (.ladd, 1) := by decide +kernel
theorem dJ13_bitCount_95d88_23 : decode cJ13_bitCount_95d88 23 = .ok (.lstore_n 0, 1) := by decide +kernel
theorem dJ13_bitCount_95d88_24 : decode cJ13_bitCount_95d88 24 = .ok (.lload_n 0, 1) := by decide +kernel
theorem dJ13_bitCount_95d88_25 : decode cJ13_bitCount_95d88 25 = .ok (.lload_n 0, 1) := by decide +kernel
theorem dJ13_bitCount_95d88_26 : decode cJ13_bitCount_95d88 26 = .ok (.iconst 4, 1) := by decide +kernel
theorem dJ13_bitCount_95d88_27 : decode cJ13_bitCount_95d88 27 = .ok (.lushr, 1) := by decide +kernel
theorem dJ13_bitCount_95d88_28 : decode cJ13_bitCount_95d88 28 = .ok (.ladd, 1) := by decide +kernel
theorem dJ13_bitCount_95d88_29 : decode cJ13_bitCount_95d88 29 = .ok (.ldc2_w 318, 3) := by decide +kernel
theorem dJ13_bitCount_95d88_32 : decode cJ13_bitCount_95d88 32 = .ok (.land, 1) := by decide +kernel
theorem dJ13_bitCount_95d88_33 : decode cJ13_bitCount_95d88 33 = .ok (.lstore_n 0, 1) := by decide +kernel
theorem dJ13_bitCount_95d88_34 : decode cJ13_bitCount_95d88 34 = .ok (.lload_n 0, 1) := by decide +kernel
theorem dJ13_bitCount_95d88_35 : decode cJ13_bitCount_95d88 35 = .ok (.lload_n 0, 1) := by decide +kernel
theorem dJ13_bitCount_95d88_36 : decode cJ13_bitCount_95d88 36 = .ok (.bipush 8, 2) := by decide +kernel
theorem dJ13_bitCount_95d88_38 : decode cJ13_bitCount_95d88 38 = .ok (.lushr, 1) := by decide +kernel
theorem dJ13_bitCount_95d88_39 : decode cJ13_bitCount_95d88 39 = .ok (.ladd, 1) := by decide +kernel
theorem dJ13_bitCount_95d88_40 : decode cJ13_bitCount_95d88 40 = .ok (.lstore_n 0, 1) := by decide +kernel
theorem dJ13_bitCount_95d88_41 : decode cJ13_bitCount_95d88 41 = .ok (.lload_n 0, 1) := by decide +kernel
theorem dJ13_bitCount_95d88_42 : decode cJ13_bitCount_95d88 42 = .ok (.lload_n 0, 1) := by decide +kernel
theorem dJ13_bitCount_95d88_43 : decode cJ13_bitCount_95d88 43 = .ok (.bipush 16, 2) := by decide +kernel
theorem dJ13_bitCount_95d88_45 : decode cJ13_bitCount_95d88 45 = .ok (.lushr, 1) := by decide +kernel
theorem dJ13_bitCount_95d88_46 : decode cJ13_bitCount_95d88 46 = .ok (.ladd, 1) := by decide +kernel
theorem dJ13_bitCount_95d88_47 : decode cJ13_bitCount_95d88 47 = .ok (.lstore_n 0, 1) := by decide +kernel
theorem dJ13_bitCount_95d88_48 : decode cJ13_bitCount_95d88 48 = .ok (.lload_n 0, 1) := by decide +kernel
theorem dJ13_bitCount_95d88_49 : decode cJ13_bitCount_95d88 49 = .ok (.lload_n 0, 1) := by decide +kernel
theorem dJ13_bitCount_95d88_50 : decode cJ13_bitCount_95d88 50 = .ok (.bipush 32, 2) := by decide +kernel
theorem dJ13_bitCount_95d88_52 : decode cJ13_bitCount_95d88 52 = .ok (.lushr, 1) := by decide +kernel
theorem dJ13_bitCount_95d88_53 : decode cJ13_bitCount_95d88 53 = .ok (.ladd, 1) := by decide +kernel
theorem dJ13_bitCount_95d88_54 : decode cJ13_bitCount_95d88 54 = .ok (.lstore_n 0, 1) := by decide +kernel
theorem dJ13_bitCount_95d88_55 : decode cJ13_bitCount_95d88 55 = .ok (.lload_n 0, 1) := by decide +kernel
theorem dJ13_bitCount_95d88_56 : decode cJ13_bitCount_95d88 56 = .ok (.l2i, 1) := by decide +kernel
theorem dJ13_bitCount_95d88_57 : decode cJ13_bitCount_95d88 57 = .ok (.bipush 127, 2) := by decide +kernel
theorem dJ13_bitCount_95d88_59 : decode cJ13_bitCount_95d88 59 = .ok (.iand, 1) := by decide +kernel
theorem dJ13_bitCount_95d88_60 : decode cJ13_bitCount_95d88 60 = .ok (.ireturn, 1) := by decide +kernel
theorem dJ0_length_8abf5_0 : decode cJ0_length_8abf5 0 = .ok (.aload_n 0, 1) := by decide +kernel
theorem dJ0_length_8abf5_1 : decode cJ0_length_8abf5 1 = .ok (.getfield 9, 3) := by decide +kernel
theorem dJ0_length_8abf5_4 : decode cJ0_length_8abf5 4 = .ok (.arraylength, 1) := by decide +kernel
theorem dJ0_length_8abf5_5 : decode cJ0_length_8abf5 5 = .ok (.aload_n 0, 1) := by decide +kernel
theorem dJ0_length_8abf5_6 : decode cJ0_length_8abf5 6 = .ok (.invokevirtual 335, 3) := by decide +kernel
theorem dJ0_length_8abf5_9 : decode cJ0_length_8abf5 9 = .ok (.ishr, 1) := by decide +kernel
theorem dJ0_length_8abf5_10 : decode cJ0_length_8abf5 10 = .ok (.ireturn, 1) := by decide +kernel
theorem dJ0_charAt_5068e_0 : decode cJ0_charAt_5068e 0 = .ok (.aload_n 0, 1) := by decide +kernel
theorem dJ0_charAt_5068e_1 : decode cJ0_charAt_5068e 1 = .ok (.invokevirtual 492, 3) := by decide +kernel
theorem dJ0_charAt_5068e_4 : decode cJ0_charAt_5068e 4 = .ok (.ifCond .eq 12, 3) := by decide +kernel
theorem dJ0_charAt_5068e_7 : decode cJ0_charAt_5068e 7 = .ok (.aload_n 0, 1) := by decide +kernel
theorem dJ0_charAt_5068e_8 : decode cJ0_charAt_5068e 8 = .ok (.getfield 9, 3) := by decide +kernel
theorem dJ0_charAt_5068e_11 : decode cJ0_charAt_5068e 11 = .ok (.iload_n 1, 1) := by decide +kernel
theorem dJ0_charAt_5068e_12 : decode cJ0_charAt_5068e 12 = .ok (.invokestatic 495, 3) := by decide +kernel
theorem dJ0_charAt_5068e_15 : decode cJ0_charAt_5068e 15 = .ok (.ireturn, 1) := by decide +kernel
theorem dJ0_charAt_5068e_16 : decode cJ0_charAt_5068e 16 = .ok (.aload_n 0, 1) := by decide +kernel
theorem dJ0_charAt_5068e_17 : decode cJ0_charAt_5068e 17 = .ok (.getfield 9, 3) := by decide +kernel
theorem dJ0_charAt_5068e_20 : decode cJ0_charAt_5068e 20 = .ok (.iload_n 1, 1) := by decide +kernel
theorem dJ0_charAt_5068e_21 : decode cJ0_charAt_5068e 21 = .ok (.invokestatic 498, 3) := by decide +kernel
theorem dJ0_charAt_5068e_24 : decode cJ0_charAt_5068e 24 = .ok (.ireturn, 1) := by decide +kernel
theorem dJ0_indexOf_0f7a4_0 : decode cJ0_indexOf_0f7a4 0 = .ok (.aload_n 0, 1) := by decide +kernel
theorem dJ0_indexOf_0f7a4_1 : decode cJ0_indexOf_0f7a4 1 = .ok (.iload_n 1, 1) := by decide +kernel
theorem dJ0_indexOf_0f7a4_2 : decode cJ0_indexOf_0f7a4 2 = .ok (.iconst 0, 1) := by decide +kernel
theorem dJ0_indexOf_0f7a4_3 : decode cJ0_indexOf_0f7a4 3 = .ok (.invokevirtual 633, 3) := by decide +kernel
theorem dJ0_indexOf_0f7a4_6 : decode cJ0_indexOf_0f7a4 6 = .ok (.ireturn, 1) := by decide +kernel
theorem dJ0_indexOf_7cf53_0 : decode cJ0_indexOf_7cf53 0 = .ok (.aload_n 0, 1) := by decide +kernel
theorem dJ0_indexOf_7cf53_1 : decode cJ0_indexOf_7cf53 1 = .ok (.invokevirtual 492, 3) := by decide +kernel
theorem dJ0_indexOf_7cf53_4 : decode cJ0_indexOf_7cf53 4 = .ok (.ifCond .eq 19, 3) := by decide +kernel
theorem dJ0_indexOf_7cf53_7 : decode cJ0_indexOf_7cf53 7 = .ok (.aload_n 0, 1) := by decide +kernel
theorem dJ0_indexOf_7cf53_8 : decode cJ0_indexOf_7cf53 8 = .ok (.getfield 9, 3) := by decide +kernel
theorem dJ0_indexOf_7cf53_11 : decode cJ0_indexOf_7cf53 11 = .ok (.iload_n 1, 1) := by decide +kernel
theorem dJ0_indexOf_7cf53_12 : decode cJ0_indexOf_7cf53 12 = .ok (.iload_n 2, 1) := by decide +kernel
theorem dJ0_indexOf_7cf53_13 : decode cJ0_indexOf_7cf53 13 = .ok (.aload_n 0, 1) := by decide +kernel
theorem dJ0_indexOf_7cf53_14 : decode cJ0_indexOf_7cf53 14 = .ok (.invokevirtual 505, 3) := by decide +kernel
theorem dJ0_indexOf_7cf53_17 : decode cJ0_indexOf_7cf53 17 = .ok (.invokestatic 637, 3) := by decide +kernel
theorem dJ0_indexOf_7cf53_20 : decode cJ0_indexOf_7cf53 20 = .ok (.goto 16, 3) := by decide +kernel
theorem dJ0_indexOf_7cf53_23 : decode cJ0_indexOf_7cf53 23 = .ok (.aload_n 0, 1) := by decide +kernel
theorem dJ0_indexOf_7cf53_24 : decode cJ0_indexOf_7cf53 24 = .ok (.getfield 9, 3) := by decide +kernel
theorem dJ0_indexOf_7cf53_27 : decode cJ0_indexOf_7cf53 27 = .ok (.iload_n 1, 1) := by decide +kernel
theorem dJ0_indexOf_7cf53_28 : decode cJ0_indexOf_7cf53 28 = .ok (.iload_n 2, 1) := by decide +kernel
theorem dJ0_indexOf_7cf53_29 : decode cJ0_indexOf_7cf53 29 = .ok (.aload_n 0, 1) := by decide +kernel
theorem dJ0_indexOf_7cf53_30 : decode cJ0_indexOf_7cf53 30 = .ok (.invokevirtual 505, 3) := by decide +kernel
theorem dJ0_indexOf_7cf53_33 : decode cJ0_indexOf_7cf53 33 = .ok (.invokestatic 640, 3) := by decide +kernel
theorem dJ0_indexOf_7cf53_36 : decode cJ0_indexOf_7cf53 36 = .ok (.ireturn, 1) := by decide +kernel
theorem dJ0_coder_7d493_0 : decode cJ0_coder_7d493 0 = .ok (.getstatic 38, 3) := by decide +kernel
theorem dJ0_coder_7d493_3 : decode cJ0_coder_7d493 3 = .ok (.ifCond .eq 10, 3) := by decide +kernel
theorem dJ0_coder_7d493_6 : decode cJ0_coder_7d493 6 = .ok (.aload_n 0, 1) := by decide +kernel
theorem dJ0_coder_7d493_7 : decode cJ0_coder_7d493 7 = .ok (.getfield 15, 3) := by decide +kernel
theorem dJ0_coder_7d493_10 : decode cJ0_coder_7d493 10 = .ok (.goto 4, 3) := by decide +kernel
theorem dJ0_coder_7d493_13 : decode cJ0_coder_7d493 13 = .ok (.iconst 1, 1) := by decide +kernel
theorem dJ0_coder_7d493_14 : decode cJ0_coder_7d493 14 = .ok (.ireturn, 1) := by decide +kernel
theorem dJ0_isLatin1_aae02_0 : decode cJ0_isLatin1_aae02 0 = .ok (.getstatic 38, 3) := by decide +kernel
theorem dJ0_isLatin1_aae02_3 : decode cJ0_isLatin1_aae02 3 = .ok (.ifCond .eq 14, 3) := by decide +kernel
theorem dJ0_isLatin1_aae02_6 : decode cJ0_isLatin1_aae02 6 = .ok (.aload_n 0, 1) := by decide +kernel
theorem dJ0_isLatin1_aae02_7 : decode cJ0_isLatin1_aae02 7 = .ok (.getfield 15, 3) := by decide +kernel
theorem dJ0_isLatin1_aae02_10 : decode cJ0_isLatin1_aae02 10 = .ok (.ifCond .ne 7, 3) := by decide +kernel
theorem dJ0_isLatin1_aae02_13 : decode cJ0_isLatin1_aae02 13 = .ok (.iconst 1, 1) := by decide +kernel
theorem dJ0_isLatin1_aae02_14 : decode cJ0_isLatin1_aae02 14 = .ok (.goto 4, 3) := by decide +kernel
theorem dJ0_isLatin1_aae02_17 : decode cJ0_isLatin1_aae02 17 = .ok (.iconst 0, 1) := by decide +kernel
theorem dJ0_isLatin1_aae02_18 : decode cJ0_isLatin1_aae02 18 = .ok (.ireturn, 1) := by decide +kernel
theorem dJ0_checkIndex_df160_0 : decode cJ0_checkIndex_df160 0 = .ok (.iload_n 0, 1) := by decide +kernel
theorem dJ0_checkIndex_df160_1 : decode cJ0_checkIndex_df160 1 = .ok (.iload_n 1, 1) := by decide +kernel
theorem dJ0_checkIndex_df160_2 : decode cJ0_checkIndex_df160 2 = .ok (.getstatic 1053, 3) := by decide +kernel
theorem dJ0_checkIndex_df160_5 : decode cJ0_checkIndex_df160 5 = .ok (.invokestatic 1059, 3) := by decide +kernel
theorem dJ0_checkIndex_df160_8 : decode cJ0_checkIndex_df160 8 = .ok (.pop, 1) := by decide +kernel
theorem dJ0_checkIndex_df160_9 : decode cJ0_checkIndex_df160 9 = .ok (.return_, 1) := by decide +kernel
theorem dJ1_charAt_3b067_0 : decode cJ1_charAt_3b067 0 = .ok (.iload_n 1, 1) := by decide +kernel
theorem dJ1_charAt_3b067_1 : decode cJ1_charAt_3b067 1 = .ok (.aload_n 0, 1) := by decide +kernel
theorem dJ1_charAt_3b067_2 : decode cJ1_charAt_3b067 2 = .ok (.arraylength, 1) := by decide +kernel
theorem dJ1_charAt_3b067_3 : decode cJ1_charAt_3b067 3 = .ok (.invokestatic 9, 3) := by decide +kernel
theorem dJ1_charAt_3b067_6 : decode cJ1_charAt_3b067 6 = .ok (.aload_n 0, 1) := by decide +kernel
theorem dJ1_charAt_3b067_7 : decode cJ1_charAt_3b067 7 = .ok (.iload_n 1, 1) := by decide +kernel
theorem dJ1_charAt_3b067_8 : decode cJ1_charAt_3b067 8 = .ok (.baload, 1) := by decide +kernel
theorem dJ1_charAt_3b067_9 : decode cJ1_charAt_3b067 9 = .ok (.sipush 255, 3) := by decide +kernel
theorem dJ1_charAt_3b067_12 : decode cJ1_charAt_3b067 12 = .ok (.iand, 1) := by decide +kernel
theorem dJ1_charAt_3b067_13 : decode cJ1_charAt_3b067 13 = .ok (.i2c, 1) := by decide +kernel
theorem dJ1_charAt_3b067_14 : decode cJ1_charAt_3b067 14 = .ok (.ireturn, 1) := by decide +kernel
theorem dJ1_canEncode_9a6ad_0 : decode cJ1_canEncode_9a6ad 0 = .ok (.iload_n 0, 1) := by decide +kernel
theorem dJ1_canEncode_9a6ad_1 : decode cJ1_canEncode_9a6ad 1 = .ok (.ifCond .lt 14, 3) := by decide +kernel
theorem dJ1_canEncode_9a6ad_4 : decode cJ1_canEncode_9a6ad 4 = .ok (.iload_n 0, 1) := by decide +kernel
theorem dJ1_canEncode_9a6ad_5 : decode cJ1_canEncode_9a6ad 5 = .ok (.sipush 255, 3) := by decide +kernel
theorem dJ1_canEncode_9a6ad_8 : decode cJ1_canEncode_9a6ad 8 = .ok (.if_icmp .gt 7, 3) := by decide +kernel
theorem dJ1_canEncode_9a6ad_11 : decode cJ1_canEncode_9a6ad 11 = .ok (.iconst 1, 1) := by decide +kernel
theorem dJ1_canEncode_9a6ad_12 : decode cJ1_canEncode_9a6ad 12 = .ok (.goto 4, 3) := by decide +kernel
theorem dJ1_canEncode_9a6ad_15 : decode cJ1_canEncode_9a6ad 15 = .ok (.iconst 0, 1) := by decide +kernel
theorem dJ1_canEncode_9a6ad_16 : decode cJ1_canEncode_9a6ad 16 = .ok (.ireturn, 1) := by decide +kernel
theorem dJ1_indexOf_4cfef_0 : decode cJ1_indexOf_4cfef 0 = .ok (.iload_n 1, 1) := by decide +kernel
