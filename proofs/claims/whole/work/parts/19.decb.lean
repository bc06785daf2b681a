theorem dX6_readAnd_7 : decode cX6_readAnd 7 = .ok (.iload_n 2, 1) := by decide +kernel
theorem dX6_readAnd_8 : decode cX6_readAnd 8 = .ok (.sipush 700, 3) := by decide +kernel
theorem dX6_readAnd_11 : decode cX6_readAnd 11 = .ok (.if_icmp .ge 43, 3) := by decide +kernel
theorem dX6_readAnd_14 : decode cX6_readAnd 14 = .ok (.aload_n 0, 1) := by decide +kernel
theorem dX6_readAnd_15 : decode cX6_readAnd 15 = .ok (.getfield 9, 3) := by decide +kernel
theorem dX6_readAnd_18 : decode cX6_readAnd 18 = .ok (.ifCond .ne 36, 3) := by decide +kernel
theorem dX6_readAnd_21 : decode cX6_readAnd 21 = .ok (.aload_n 0, 1) := by decide +kernel
theorem dX6_readAnd_22 : decode cX6_readAnd 22 = .ok (.ldc 208, 2) := by decide +kernel
theorem dX6_readAnd_24 : decode cX6_readAnd 24 = .ok (.invokevirtual 181, 3) := by decide +kernel
theorem dX6_readAnd_27 : decode cX6_readAnd 27 = .ok (.ifCond .eq 27, 3) := by decide +kernel
theorem dX6_readAnd_30 : decode cX6_readAnd 30 = .ok (.aload_n 0, 1) := by decide +kernel
theorem dX6_readAnd_31 : decode cX6_readAnd 31 = .ok (.invokevirtual 65, 3) := by decide +kernel
theorem dX6_readAnd_34 : decode cX6_readAnd 34 = .ok (.aload_n 0, 1) := by decide +kernel
theorem dX6_readAnd_35 : decode cX6_readAnd 35 = .ok (.iload_n 1, 1) := by decide +kernel
theorem dX6_readAnd_36 : decode cX6_readAnd 36 = .ok (.invokevirtual 205, 3) := by decide +kernel
theorem dX6_readAnd_39 : decode cX6_readAnd 39 = .ok (.aload_n 0, 1) := by decide +kernel
theorem dX6_readAnd_40 : decode cX6_readAnd 40 = .ok (.getfield 53, 3) := by decide +kernel
theorem dX6_readAnd_43 : decode cX6_readAnd 43 = .ok (.bipush (-12), 2) := by decide +kernel
theorem dX6_readAnd_45 : decode cX6_readAnd 45 = .ok (.invokevirtual 202, 3) := by decide +kernel
theorem dX6_readAnd_48 : decode cX6_readAnd 48 = .ok (.iinc 2 1, 3) := by decide +kernel
theorem dX6_readAnd_51 : decode cX6_readAnd 51 = .ok (.goto (-44), 3) := by decide +kernel
theorem dX6_readAnd_54 : decode cX6_readAnd 54 = .ok (.return_, 1) := by decide +kernel
theorem dX6_readNot_0 : decode cX6_readNot 0 = .ok (.iconst 0, 1) := by decide +kernel
theorem dX6_readNot_1 : decode cX6_readNot 1 = .ok (.istore_n 2, 1) := by decide +kernel
theorem dX6_readNot_2 : decode cX6_readNot 2 = .ok (.iload_n 2, 1) := by decide +kernel
theorem dX6_readNot_3 : decode cX6_readNot 3 = .ok (.bipush 6, 2) := by decide +kernel
theorem dX6_readNot_5 : decode cX6_readNot 5 = .ok (.if_icmp .ge 22, 3) := by decide +kernel
theorem dX6_readNot_8 : decode cX6_readNot 8 = .ok (.aload_n 0, 1) := by decide +kernel
theorem dX6_readNot_9 : decode cX6_readNot 9 = .ok (.ldc 210, 2) := by decide +kernel
theorem dX6_readNot_11 : decode cX6_readNot 11 = .ok (.invokevirtual 181, 3) := by decide +kernel
theorem dX6_readNot_14 : decode cX6_readNot 14 = .ok (.ifCond .eq 13, 3) := by decide +kernel
theorem dX6_readNot_17 : decode cX6_readNot 17 = .ok (.iinc 2 1, 3) := by decide +kernel
theorem dX6_readNot_20 : decode cX6_readNot 20 = .ok (.aload_n 0, 1) := by decide +kernel
theorem dX6_readNot_21 : decode cX6_readNot 21 = .ok (.invokevirtual 65, 3) := by decide +kernel
theorem dX6_readNot_24 : decode cX6_readNot 24 = .ok (.goto (-22), 3) := by decide +kernel
theorem dX6_readNot_27 : decode cX6_readNot 27 = .ok (.iload_n 2, 1) := by decide +kernel
theorem dX6_readNot_28 : decode cX6_readNot 28 = .ok (.bipush 6, 2) := by decide +kernel
theorem dX6_readNot_30 : decode cX6_readNot 30 = .ok (.if_icmp .ne 17, 3) := by decide +kernel
theorem dX6_readNot_33 : decode cX6_readNot 33 = .ok (.aload_n 0, 1) := by decide +kernel
theorem dX6_readNot_34 : decode cX6_readNot 34 = .ok (.ldc 210, 2) := by decide +kernel
theorem dX6_readNot_36 : decode cX6_readNot 36 = .ok (.invokevirtual 181, 3) := by decide +kernel
theorem dX6_readNot_39 : decode cX6_readNot 39 = .ok (.ifCond .eq 8, 3) := by decide +kernel
theorem dX6_readNot_42 : decode cX6_readNot 42 = .ok (.aload_n 0, 1) := by decide +kernel
theorem dX6_readNot_43 : decode cX6_readNot 43 = .ok (.iconst 2, 1) := by decide +kernel
theorem dX6_readNot_44 : decode cX6_readNot 44 = .ok (.invokevirtual 109, 3) := by decide +kernel
theorem dX6_readNot_47 : decode cX6_readNot 47 = .ok (.aload_n 0, 1) := by decide +kernel
theorem dX6_readNot_48 : decode cX6_readNot 48 = .ok (.iload_n 1, 1) := by decide +kernel
theorem dX6_readNot_49 : decode cX6_readNot 49 = .ok (.invokevirtual 212, 3) := by decide +kernel
theorem dX6_readNot_52 : decode cX6_readNot 52 = .ok (.aload_n 0, 1) := by decide +kernel
theorem dX6_readNot_53 : decode cX6_readNot 53 = .ok (.getfield 9, 3) := by decide +kernel
theorem dX6_readNot_56 : decode cX6_readNot 56 = .ok (.ifCond .ne 55, 3) := by decide +kernel
theorem dX6_readNot_59 : decode cX6_readNot 59 = .ok (.aload_n 0, 1) := by decide +kernel
theorem dX6_readNot_60 : decode cX6_readNot 60 = .ok (.getfield 31, 3) := by decide +kernel
theorem dX6_readNot_63 : decode cX6_readNot 63 = .ok (.bipush 60, 2) := by decide +kernel
theorem dX6_readNot_65 : decode cX6_readNot 65 = .ok (.if_icmp .eq 12, 3) := by decide +kernel
theorem dX6_readNot_68 : decode cX6_readNot 68 = .ok (.aload_n 0, 1) := by decide +kernel
theorem dX6_readNot_69 : decode cX6_readNot 69 = .ok (.getfield 31, 3) := by decide +kernel
theorem dX6_readNot_72 : decode cX6_readNot 72 = .ok (.bipush 61, 2) := by decide +kernel
theorem dX6_readNot_74 : decode cX6_readNot 74 = .ok (.if_icmp .ne 37, 3) := by decide +kernel
theorem dX6_readNot_77 : decode cX6_readNot 77 = .ok (.aload_n 0, 1) := by decide +kernel
theorem dX6_readNot_78 : decode cX6_readNot 78 = .ok (.getfield 31, 3) := by decide +kernel
theorem dX6_readNot_81 : decode cX6_readNot 81 = .ok (.bipush 60, 2) := by decide +kernel
theorem dX6_readNot_83 : decode cX6_readNot 83 = .ok (.if_icmp .ne 8, 3) := by decide +kernel
theorem dX6_readNot_86 : decode cX6_readNot 86 = .ok (.bipush (-13), 2) := by decide +kernel
theorem dX6_readNot_88 : decode cX6_readNot 88 = .ok (.goto 5, 3) := by decide +kernel
theorem dX6_readNot_91 : decode cX6_readNot 91 = .ok (.bipush (-14), 2) := by decide +kernel
theorem dX6_readNot_93 : decode cX6_readNot 93 = .ok (.istore_n 3, 1) := by decide +kernel
theorem dX6_readNot_94 : decode cX6_readNot 94 = .ok (.aload_n 0, 1) := by decide +kernel
theorem dX6_readNot_95 : decode cX6_readNot 95 = .ok (.invokevirtual 65, 3) := by decide +kernel
theorem dX6_readNot_98 : decode cX6_readNot 98 = .ok (.aload_n 0, 1) := by decide +kernel
theorem dX6_readNot_99 : decode cX6_readNot 99 = .ok (.iload_n 1, 1) := by decide +kernel
theorem dX6_readNot_100 : decode cX6_readNot 100 = .ok (.invokevirtual 212, 3) := by decide +kernel
theorem dX6_readNot_103 : decode cX6_readNot 103 = .ok (.aload_n 0, 1) := by decide +kernel
theorem dX6_readNot_104 : decode cX6_readNot 104 = .ok (.getfield 53, 3) := by decide +kernel
theorem dX6_readNot_107 : decode cX6_readNot 107 = .ok (.iload_n 3, 1) := by decide +kernel
theorem dX6_readNot_108 : decode cX6_readNot 108 = .ok (.invokevirtual 202, 3) := by decide +kernel
theorem dX6_readNot_111 : decode cX6_readNot 111 = .ok (.iconst 0, 1) := by decide +kernel
theorem dX6_readNot_112 : decode cX6_readNot 112 = .ok (.istore_n 3, 1) := by decide +kernel
theorem dX6_readNot_113 : decode cX6_readNot 113 = .ok (.iload_n 3, 1) := by decide +kernel
theorem dX6_readNot_114 : decode cX6_readNot 114 = .ok (.iload_n 2, 1) := by decide +kernel
theorem dX6_readNot_115 : decode cX6_readNot 115 = .ok (.if_icmp .ge 18, 3) := by decide +kernel
theorem dX6_readNot_118 : decode cX6_readNot 118 = .ok (.aload_n 0, 1) := by decide +kernel
theorem dX6_readNot_119 : decode cX6_readNot 119 = .ok (.getfield 53, 3) := by decide +kernel
theorem dX6_readNot_122 : decode cX6_readNot 122 = .ok (.bipush (-10), 2) := by decide +kernel
theorem dX6_readNot_124 : decode cX6_readNot 124 = .ok (.invokevirtual 202, 3) := by decide +kernel
theorem dX6_readNot_127 : decode cX6_readNot 127 = .ok (.iinc 3 1, 3) := by decide +kernel
theorem dX6_readNot_130 : decode cX6_readNot 130 = .ok (.goto (-17), 3) := by decide +kernel
theorem dX6_readNot_133 : decode cX6_readNot 133 = .ok (.return_, 1) := by decide +kernel
theorem dX6_readSum_0 : decode cX6_readSum 0 = .ok (.aload_n 0, 1) := by decide +kernel
theorem dX6_readSum_1 : decode cX6_readSum 1 = .ok (.iload_n 1, 1) := by decide +kernel
theorem dX6_readSum_2 : decode cX6_readSum 2 = .ok (.invokevirtual 215, 3) := by decide +kernel
theorem dX6_readSum_5 : decode cX6_readSum 5 = .ok (.iconst 0, 1) := by decide +kernel
theorem dX6_readSum_6 : decode cX6_readSum 6 = .ok (.istore_n 2, 1) := by decide +kernel
theorem dX6_readSum_7 : decode cX6_readSum 7 = .ok (.iload_n 2, 1) := by decide +kernel
theorem dX6_readSum_8 : decode cX6_readSum 8 = .ok (.sipush 700, 3) := by decide +kernel
theorem dX6_readSum_11 : decode cX6_readSum 11 = .ok (.if_icmp .ge 68, 3) := by decide +kernel
theorem dX6_readSum_14 : decode cX6_readSum 14 = .ok (.aload_n 0, 1) := by decide +kernel
theorem dX6_readSum_15 : decode cX6_readSum 15 = .ok (.getfield 9, 3) := by decide +kernel
theorem dX6_readSum_18 : decode cX6_readSum 18 = .ok (.ifCond .ne 61, 3) := by decide +kernel
theorem dX6_readSum_21 : decode cX6_readSum 21 = .ok (.aload_n 0, 1) := by decide +kernel
theorem dX6_readSum_22 : decode cX6_readSum 22 = .ok (.getfield 31, 3) := by decide +kernel
theorem dX6_readSum_25 : decode cX6_readSum 25 = .ok (.bipush 43, 2) := by decide +kernel
theorem dX6_readSum_27 : decode cX6_readSum 27 = .ok (.if_icmp .eq 12, 3) := by decide +kernel
theorem dX6_readSum_30 : decode cX6_readSum 30 = .ok (.aload_n 0, 1) := by decide +kernel
theorem dX6_readSum_31 : decode cX6_readSum 31 = .ok (.getfield 31, 3) := by decide +kernel
theorem dX6_readSum_34 : decode cX6_readSum 34 = .ok (.bipush 45, 2) := by decide +kernel
theorem dX6_readSum_36 : decode cX6_readSum 36 = .ok (.if_icmp .ne 43, 3) := by decide +kernel
theorem dX6_readSum_39 : decode cX6_readSum 39 = .ok (.aload_n 0, 1) := by decide +kernel
theorem dX6_readSum_40 : decode cX6_readSum 40 = .ok (.getfield 31, 3) := by decide +kernel
theorem dX6_readSum_43 : decode cX6_readSum 43 = .ok (.bipush 43, 2) := by decide +kernel
theorem dX6_readSum_45 : decode cX6_readSum 45 = .ok (.if_icmp .ne 8, 3) := by decide +kernel
theorem dX6_readSum_48 : decode cX6_readSum 48 = .ok (.bipush (-15), 2) := by decide +kernel
theorem dX6_readSum_50 : decode cX6_readSum 50 = .ok (.goto 5, 3) := by decide +kernel
theorem dX6_readSum_53 : decode cX6_readSum 53 = .ok (.bipush (-16), 2) := by decide +kernel
theorem dX6_readSum_55 : decode cX6_readSum 55 = .ok (.istore_n 3, 1) := by decide +kernel
theorem dX6_readSum_56 : decode cX6_readSum 56 = .ok (.aload_n 0, 1) := by decide +kernel
theorem dX6_readSum_57 : decode cX6_readSum 57 = .ok (.invokevirtual 65, 3) := by decide +kernel
theorem dX6_readSum_60 : decode cX6_readSum 60 = .ok (.aload_n 0, 1) := by decide +kernel
theorem dX6_readSum_61 : decode cX6_readSum 61 = .ok (.iload_n 1, 1) := by decide +kernel
theorem dX6_readSum_62 : decode cX6_readSum 62 = .ok (.invokevirtual 215, 3) := by decide +kernel
theorem dX6_readSum_65 : decode cX6_readSum 65 = .ok (.aload_n 0, 1) := by decide +kernel
theorem dX6_readSum_66 : decode cX6_readSum 66 = .ok (.getfield 53, 3) := by decide +kernel
theorem dX6_readSum_69 : decode cX6_readSum 69 = .ok (.iload_n 3, 1) := by decide +kernel
theorem dX6_readSum_70 : decode cX6_readSum 70 = .ok (.invokevirtual 202, 3) := by decide +kernel
theorem dX6_readSum_73 : decode cX6_readSum 73 = .ok (.iinc 2 1, 3) := by decide +kernel
theorem dX6_readSum_76 : decode cX6_readSum 76 = .ok (.goto (-69), 3) := by decide +kernel
theorem dX6_readSum_79 : decode cX6_readSum 79 = .ok (.return_, 1) := by decide +kernel
theorem dX6_readProduct_0 : decode cX6_readProduct 0 = .ok (.aload_n 0, 1) := by decide +kernel
theorem dX6_readProduct_1 : decode cX6_readProduct 1 = .ok (.iload_n 1, 1) := by decide +kernel
theorem dX6_readProduct_2 : decode cX6_readProduct 2 = .ok (.invokevirtual 218, 3) := by decide +kernel
theorem dX6_readProduct_5 : decode cX6_readProduct 5 = .ok (.iconst 0, 1) := by decide +kernel
theorem dX6_readProduct_6 : decode cX6_readProduct 6 = .ok (.istore_n 2, 1) := by decide +kernel
theorem dX6_readProduct_7 : decode cX6_readProduct 7 = .ok (.iload_n 2, 1) := by decide +kernel
theorem dX6_readProduct_8 : decode cX6_readProduct 8 = .ok (.sipush 700, 3) := by decide +kernel
theorem dX6_readProduct_11 : decode cX6_readProduct 11 = .ok (.if_icmp .ge 68, 3) := by decide +kernel
theorem dX6_readProduct_14 : decode cX6_readProduct 14 = .ok (.aload_n 0, 1) := by decide +kernel
theorem dX6_readProduct_15 : decode cX6_readProduct 15 = .ok (.getfield 9, 3) := by decide +kernel
theorem dX6_readProduct_18 : decode cX6_readProduct 18 = .ok (.ifCond .ne 61, 3) := by decide +kernel
theorem dX6_readProduct_21 : decode cX6_readProduct 21 = .ok (.aload_n 0, 1) := by decide +kernel
theorem dX6_readProduct_22 : decode cX6_readProduct 22 = .ok (.getfield 31, 3) := by decide +kernel
theorem dX6_readProduct_25 : decode cX6_readProduct 25 = .ok (.bipush 42, 2) := by decide +kernel
theorem dX6_readProduct_27 : decode cX6_readProduct 27 = .ok (.if_icmp .eq 12, 3) := by decide +kernel
theorem dX6_readProduct_30 : decode cX6_readProduct 30 = .ok (.aload_n 0, 1) := by decide +kernel
theorem dX6_readProduct_31 : decode cX6_readProduct 31 = .ok (.getfield 31, 3) := by decide +kernel
theorem dX6_readProduct_34 : decode cX6_readProduct 34 = .ok (.bipush 47, 2) := by decide +kernel
theorem dX6_readProduct_36 : decode cX6_readProduct 36 = .ok (.if_icmp .ne 43, 3) := by decide +kernel
theorem dX6_readProduct_39 : decode cX6_readProduct 39 = .ok (.aload_n 0, 1) := by decide +kernel
theorem dX6_readProduct_40 : decode cX6_readProduct 40 = .ok (.getfield 31, 3) := by decide +kernel
theorem dX6_readProduct_43 : decode cX6_readProduct 43 = .ok (.bipush 42, 2) := by decide +kernel
theorem dX6_readProduct_45 : decode cX6_readProduct 45 = .ok (.if_icmp .ne 8, 3) := by decide +kernel
theorem dX6_readProduct_48 : decode cX6_readProduct 48 = .ok (.bipush (-17), 2) := by decide +kernel
theorem dX6_readProduct_50 : decode cX6_readProduct 50 = .ok (.goto 5, 3) := by decide +kernel
theorem dX6_readProduct_53 : decode cX6_readProduct 53 = .ok (.bipush (-18), 2) := by decide +kernel
theorem dX6_readProduct_55 : decode cX6_readProduct 55 = .ok (.istore_n 3, 1) := by decide +kernel
theorem dX6_readProduct_56 : decode cX6_readProduct 56 = .ok (.aload_n 0, 1) := by decide +kernel
theorem dX6_readProduct_57 : decode cX6_readProduct 57 = .ok (.invokevirtual 65, 3) := by decide +kernel
theorem dX6_readProduct_60 : decode cX6_readProduct 60 = .ok (.aload_n 0, 1) := by decide +kernel
theorem dX6_readProduct_61 : decode cX6_readProduct 61 = .ok (.iload_n 1, 1) := by decide +kernel
theorem dX6_readProduct_62 : decode cX6_readProduct 62 = .ok (.invokevirtual 218, 3) := by decide +kernel
theorem dX6_readProduct_65 : decode cX6_readProduct 65 = .ok (.aload_n 0, 1) := by decide +kernel
theorem dX6_readProduct_66 : decode cX6_readProduct 66 = .ok (.getfield 53, 3) := by decide +kernel
theorem dX6_readProduct_69 : decode cX6_readProduct 69 = .ok (.iload_n 3, 1) := by decide +kernel
theorem dX6_readProduct_70 : decode cX6_readProduct 70 = .ok (.invokevirtual 202, 3) := by decide +kernel
theorem dX6_readProduct_73 : decode cX6_readProduct 73 = .ok (.iinc 2 1, 3) := by decide +kernel
theorem dX6_readProduct_76 : decode cX6_readProduct 76 = .ok (.goto (-69), 3) := by decide +kernel
theorem dX6_readProduct_79 : decode cX6_readProduct 79 = .ok (.return_, 1) := by decide +kernel
theorem dX6_readPart_0 : decode cX6_readPart 0 = .ok (.aload_n 0, 1) := by decide +kernel
theorem dX6_readPart_1 : decode cX6_readPart 1 = .ok (.getfield 9, 3) := by decide +kernel
theorem dX6_readPart_4 : decode cX6_readPart 4 = .ok (.ifCond .eq 4, 3) := by decide +kernel
theorem dX6_readPart_7 : decode cX6_readPart 7 = .ok (.return_, 1) := by decide +kernel
theorem dX6_readPart_8 : decode cX6_readPart 8 = .ok (.aload_n 0, 1) := by decide +kernel
theorem dX6_readPart_9 : decode cX6_readPart 9 = .ok (.getfield 31, 3) := by decide +kernel
theorem dX6_readPart_12 : decode cX6_readPart 12 = .ok (.sipush 256, 3) := by decide +kernel
theorem dX6_readPart_15 : decode cX6_readPart 15 = .ok (.if_icmp .ne 18, 3) := by decide +kernel
theorem dX6_readPart_18 : decode cX6_readPart 18 = .ok (.aload_n 0, 1) := by decide +kernel
theorem dX6_readPart_19 : decode cX6_readPart 19 = .ok (.aload_n 0, 1) := by decide +kernel
theorem dX6_readPart_20 : decode cX6_readPart 20 = .ok (.aload_n 0, 1) := by decide +kernel
theorem dX6_readPart_21 : decode cX6_readPart 21 = .ok (.getfield 39, 3) := by decide +kernel
theorem dX6_readPart_24 : decode cX6_readPart 24 = .ok (.invokevirtual 115, 3) := by decide +kernel
theorem dX6_readPart_27 : decode cX6_readPart 27 = .ok (.invokevirtual 221, 3) := by decide +kernel
theorem dX6_readPart_30 : decode cX6_readPart 30 = .ok (.goto 58, 3) := by decide +kernel
theorem dX6_readPart_33 : decode cX6_readPart 33 = .ok (.aload_n 0, 1) := by decide +kernel
theorem dX6_readPart_34 : decode cX6_readPart 34 = .ok (.getfield 31, 3) := by decide +kernel
theorem dX6_readPart_37 : decode cX6_readPart 37 = .ok (.bipush 40, 2) := by decide +kernel
theorem dX6_readPart_39 : decode cX6_readPart 39 = .ok (.if_icmp .ne 23, 3) := by decide +kernel
theorem dX6_readPart_42 : decode cX6_readPart 42 = .ok (.aload_n 0, 1) := by decide +kernel
theorem dX6_readPart_43 : decode cX6_readPart 43 = .ok (.invokevirtual 65, 3) := by decide +kernel
theorem dX6_readPart_46 : decode cX6_readPart 46 = .ok (.aload_n 0, 1) := by decide +kernel
theorem dX6_readPart_47 : decode cX6_readPart 47 = .ok (.iload_n 1, 1) := by decide +kernel
theorem dX6_readPart_48 : decode cX6_readPart 48 = .ok (.iconst 1, 1) := by decide +kernel
theorem dX6_readPart_49 : decode cX6_readPart 49 = .ok (.iadd, 1) := by decide +kernel
theorem dX6_readPart_50 : decode cX6_readPart 50 = .ok (.invokevirtual 194, 3) := by decide +kernel
theorem dX6_readPart_53 : decode cX6_readPart 53 = .ok (.aload_n 0, 1) := by decide +kernel
theorem dX6_readPart_54 : decode cX6_readPart 54 = .ok (.bipush 41, 2) := by decide +kernel
theorem dX6_readPart_56 : decode cX6_readPart 56 = .ok (.invokevirtual 137, 3) := by decide +kernel
theorem dX6_readPart_59 : decode cX6_readPart 59 = .ok (.goto 29, 3) := by decide +kernel
theorem dX6_readPart_62 : decode cX6_readPart 62 = .ok (.aload_n 0, 1) := by decide +kernel
theorem dX6_readPart_63 : decode cX6_readPart 63 = .ok (.getfield 53, 3) := by decide +kernel
theorem dX6_readPart_66 : decode cX6_readPart 66 = .ok (.aload_n 0, 1) := by decide +kernel
theorem dX6_readPart_67 : decode cX6_readPart 67 = .ok (.sipush 10000, 3) := by decide +kernel
theorem dX6_readPart_70 : decode cX6_readPart 70 = .ok (.iconst 2, 1) := by decide +kernel
theorem dX6_readPart_71 : decode cX6_readPart 71 = .ok (.invokevirtual 143, 3) := by decide +kernel
theorem dX6_readPart_74 : decode cX6_readPart 74 = .ok (.invokevirtual 202, 3) := by decide +kernel
theorem dX6_readPart_77 : decode cX6_readPart 77 = .ok (.aload_n 0, 1) := by decide +kernel
theorem dX6_readPart_78 : decode cX6_readPart 78 = .ok (.getfield 9, 3) := by decide +kernel
theorem dX6_readPart_81 : decode cX6_readPart 81 = .ok (.ifCond .ne 7, 3) := by decide +kernel
theorem dX6_readPart_84 : decode cX6_readPart 84 = .ok (.aload_n 0, 1) := by decide +kernel
theorem dX6_readPart_85 : decode cX6_readPart 85 = .ok (.invokevirtual 65, 3) := by decide +kernel
theorem dX6_readPart_88 : decode cX6_readPart 88 = .ok (.return_, 1) := by decide +kernel
theorem dX6_readValue_0 : decode cX6_readValue 0 = .ok (.iload_n 1, 1) := by decide +kernel
theorem dX6_readValue_1 : decode cX6_readValue 1 = .ok (.iconst (-1), 1) := by decide +kernel
theorem dX6_readValue_2 : decode cX6_readValue 2 = .ok (.if_icmp .ne 11, 3) := by decide +kernel
theorem dX6_readValue_5 : decode cX6_readValue 5 = .ok (.aload_n 0, 1) := by decide +kernel
theorem dX6_readValue_6 : decode cX6_readValue 6 = .ok (.iconst 3, 1) := by decide +kernel
theorem dX6_readValue_7 : decode cX6_readValue 7 = .ok (.invokevirtual 109, 3) := by decide +kernel
theorem dX6_readValue_10 : decode cX6_readValue 10 = .ok (.goto 15, 3) := by decide +kernel
theorem dX6_readValue_13 : decode cX6_readValue 13 = .ok (.aload_n 0, 1) := by decide +kernel
theorem dX6_readValue_14 : decode cX6_readValue 14 = .ok (.getfield 53, 3) := by decide +kernel
theorem dX6_readValue_17 : decode cX6_readValue 17 = .ok (.iload_n 1, 1) := by decide +kernel
theorem dX6_readValue_18 : decode cX6_readValue 18 = .ok (.invokevirtual 224, 3) := by decide +kernel
theorem dX6_readValue_21 : decode cX6_readValue 21 = .ok (.aload_n 0, 1) := by decide +kernel
theorem dX6_readValue_22 : decode cX6_readValue 22 = .ok (.invokevirtual 65, 3) := by decide +kernel
theorem dX6_readValue_25 : decode cX6_readValue 25 = .ok (.return_, 1) := by decide +kernel
theorem dX7_init_0 : decode cX7_init 0 = .ok (.aload_n 0, 1) := by decide +kernel
theorem dX7_init_1 : decode cX7_init 1 = .ok (.invokespecial 3, 3) := by decide +kernel
theorem dX7_init_4 : decode cX7_init 4 = .ok (.aload_n 0, 1) := by decide +kernel
theorem dX7_init_5 : decode cX7_init 5 = .ok (.sipush 700, 3) := by decide +kernel
theorem dX7_init_8 : decode cX7_init 8 = .ok (.newarray .int, 2) := by decide +kernel
theorem dX7_init_10 : decode cX7_init 10 = .ok (.putfield 9, 3) := by decide +kernel
theorem dX7_init_13 : decode cX7_init 13 = .ok (.aload_n 0, 1) := by decide +kernel
theorem dX7_init_14 : decode cX7_init 14 = .ok (.iconst 0, 1) := by decide +kernel
theorem dX7_init_15 : decode cX7_init 15 = .ok (.putfield 15, 3) := by decide +kernel
theorem dX7_init_18 : decode cX7_init 18 = .ok (.aload_n 0, 1) := by decide +kernel
theorem dX7_init_19 : decode cX7_init 19 = .ok (.bipush 64, 2) := by decide +kernel
theorem dX7_init_21 : decode cX7_init 21 = .ok (.newarray .int, 2) := by decide +kernel
theorem dX7_init_23 : decode cX7_init 23 = .ok (.putfield 19, 3) := by decide +kernel
theorem dX7_init_26 : decode cX7_init 26 = .ok (.return_, 1) := by decide +kernel
theorem dX7_isTold_0 : decode cX7_isTold 0 = .ok (.aload_n 0, 1) := by decide +kernel
theorem dX7_isTold_1 : decode cX7_isTold 1 = .ok (.getfield 15, 3) := by decide +kernel
theorem dX7_isTold_4 : decode cX7_isTold 4 = .ok (.ifCond .le 7, 3) := by decide +kernel
theorem dX7_isTold_7 : decode cX7_isTold 7 = .ok (.iconst 1, 1) := by decide +kernel
theorem dX7_isTold_8 : decode cX7_isTold 8 = .ok (.goto 4, 3) := by decide +kernel
theorem dX7_isTold_11 : decode cX7_isTold 11 = .ok (.iconst 0, 1) := by decide +kernel
theorem dX7_isTold_12 : decode cX7_isTold 12 = .ok (.ireturn, 1) := by decide +kernel
theorem dX7_add_0 : decode cX7_add 0 = .ok (.aload_n 0, 1) := by decide +kernel
theorem dX7_add_1 : decode cX7_add 1 = .ok (.getfield 15, 3) := by decide +kernel
theorem dX7_add_4 : decode cX7_add 4 = .ok (.aload_n 0, 1) := by decide +kernel
theorem dX7_add_5 : decode cX7_add 5 = .ok (.getfield 9, 3) := by decide +kernel
theorem dX7_add_8 : decode cX7_add 8 = .ok (.arraylength, 1) := by decide +kernel
theorem dX7_add_9 : decode cX7_add 9 = .ok (.if_icmp .ge 23, 3) := by decide +kernel
theorem dX7_add_12 : decode cX7_add 12 = .ok (.aload_n 0, 1) := by decide +kernel
theorem dX7_add_13 : decode cX7_add 13 = .ok (.getfield 9, 3) := by decide +kernel
theorem dX7_add_16 : decode cX7_add 16 = .ok (.aload_n 0, 1) := by decide +kernel
theorem dX7_add_17 : decode cX7_add 17 = .ok (.getfield 15, 3) := by decide +kernel
theorem dX7_add_20 : decode cX7_add 20 = .ok (.iload_n 1, 1) := by decide +kernel
theorem dX7_add_21 : decode cX7_add 21 = .ok (.iastore, 1) := by decide +kernel
theorem dX7_add_22 : decode cX7_add 22 = .ok (.aload_n 0, 1) := by decide +kernel
theorem dX7_add_23 : decode cX7_add 23 = .ok (.dup, 1) := by decide +kernel
theorem dX7_add_24 : decode cX7_add 24 = .ok (.getfield 15, 3) := by decide +kernel
theorem dX7_add_27 : decode cX7_add 27 = .ok (.iconst 1, 1) := by decide +kernel
theorem dX7_add_28 : decode cX7_add 28 = .ok (.iadd, 1) := by decide +kernel
theorem dX7_add_29 : decode cX7_add 29 = .ok (.putfield 15, 3) := by decide +kernel
theorem dX7_add_32 : decode cX7_add 32 = .ok (.return_, 1) := by decide +kernel
theorem dX7_addValue_0 : decode cX7_addValue 0 = .ok (.aload_n 0, 1) := by decide +kernel
theorem dX7_addValue_1 : decode cX7_addValue 1 = .ok (.iconst (-1), 1) := by decide +kernel
theorem dX7_addValue_2 : decode cX7_addValue 2 = .ok (.iload_n 1, 1) := by decide +kernel
theorem dX7_addValue_3 : decode cX7_addValue 3 = .ok (.isub, 1) := by decide +kernel
theorem dX7_addValue_4 : decode cX7_addValue 4 = .ok (.invokevirtual 22, 3) := by decide +kernel
theorem dX7_addValue_7 : decode cX7_addValue 7 = .ok (.return_, 1) := by decide +kernel
theorem dX7_evaluate_0 : decode cX7_evaluate 0 = .ok (.iconst 0, 1) := by decide +kernel
theorem dX7_evaluate_1 : decode cX7_evaluate 1 = .ok (.istore_n 2, 1) := by decide +kernel
theorem dX7_evaluate_2 : decode cX7_evaluate 2 = .ok (.iconst 0, 1) := by decide +kernel
theorem dX7_evaluate_3 : decode cX7_evaluate 3 = .ok (.istore_n 3, 1) := by decide +kernel
theorem dX7_evaluate_4 : decode cX7_evaluate 4 = .ok (.iload_n 3, 1) := by decide +kernel
theorem dX7_evaluate_5 : decode cX7_evaluate 5 = .ok (.aload_n 0, 1) := by decide +kernel
theorem dX7_evaluate_6 : decode cX7_evaluate 6 = .ok (.getfield 15, 3) := by decide +kernel
theorem dX7_evaluate_9 : decode cX7_evaluate 9 = .ok (.if_icmp .ge 137, 3) := by decide +kernel
theorem dX7_evaluate_12 : decode cX7_evaluate 12 = .ok (.aload_n 0, 1) := by decide +kernel
theorem dX7_evaluate_13 : decode cX7_evaluate 13 = .ok (.getfield 9, 3) := by decide +kernel
theorem dX7_evaluate_16 : decode cX7_evaluate 16 = .ok (.iload_n 3, 1) := by decide +kernel
theorem dX7_evaluate_17 : decode cX7_evaluate 17 = .ok (.iaload, 1) := by decide +kernel
theorem dX7_evaluate_18 : decode cX7_evaluate 18 = .ok (.istore 4, 2) := by decide +kernel
theorem dX7_evaluate_20 : decode cX7_evaluate 20 = .ok (.iload 4, 2) := by decide +kernel
theorem dX7_evaluate_22 : decode cX7_evaluate 22 = .ok (.bipush (-10), 2) := by decide +kernel
theorem dX7_evaluate_24 : decode cX7_evaluate 24 = .ok (.if_icmp .le 42, 3) := by decide +kernel
theorem dX7_evaluate_27 : decode cX7_evaluate 27 = .ok (.iload_n 2, 1) := by decide +kernel
theorem dX7_evaluate_28 : decode cX7_evaluate 28 = .ok (.aload_n 0, 1) := by decide +kernel
theorem dX7_evaluate_29 : decode cX7_evaluate 29 = .ok (.getfield 19, 3) := by decide +kernel
theorem dX7_evaluate_32 : decode cX7_evaluate 32 = .ok (.arraylength, 1) := by decide +kernel
theorem dX7_evaluate_33 : decode cX7_evaluate 33 = .ok (.if_icmp .ge 33, 3) := by decide +kernel
theorem dX7_evaluate_36 : decode cX7_evaluate 36 = .ok (.aload_n 0, 1) := by decide +kernel
theorem dX7_evaluate_37 : decode cX7_evaluate 37 = .ok (.getfield 19, 3) := by decide +kernel
theorem dX7_evaluate_40 : decode cX7_evaluate 40 = .ok (.iload_n 2, 1) := by decide +kernel
theorem dX7_evaluate_41 : decode cX7_evaluate 41 = .ok (.iload 4, 2) := by decide +kernel
theorem dX7_evaluate_43 : decode cX7_evaluate 43 = .ok (.ifCond .lt 8, 3) := by decide +kernel
theorem dX7_evaluate_46 : decode cX7_evaluate 46 = .ok (.iload 4, 2) := by decide +kernel
theorem dX7_evaluate_48 : decode cX7_evaluate 48 = .ok (.goto 11, 3) := by decide +kernel
theorem dX7_evaluate_51 : decode cX7_evaluate 51 = .ok (.aload_n 1, 1) := by decide +kernel
theorem dX7_evaluate_52 : decode cX7_evaluate 52 = .ok (.iconst (-1), 1) := by decide +kernel
theorem dX7_evaluate_53 : decode cX7_evaluate 53 = .ok (.iload 4, 2) := by decide +kernel
theorem dX7_evaluate_55 : decode cX7_evaluate 55 = .ok (.isub, 1) := by decide +kernel
theorem dX7_evaluate_56 : decode cX7_evaluate 56 = .ok (.invokestatic 26, 3) := by decide +kernel
theorem dX7_evaluate_59 : decode cX7_evaluate 59 = .ok (.iastore, 1) := by decide +kernel
theorem dX7_evaluate_60 : decode cX7_evaluate 60 = .ok (.iinc 2 1, 3) := by decide +kernel
theorem dX7_evaluate_63 : decode cX7_evaluate 63 = .ok (.goto 77, 3) := by decide +kernel
theorem dX7_evaluate_66 : decode cX7_evaluate 66 = .ok (.iload 4, 2) := by decide +kernel
theorem dX7_evaluate_68 : decode cX7_evaluate 68 = .ok (.bipush (-10), 2) := by decide +kernel
theorem dX7_evaluate_70 : decode cX7_evaluate 70 = .ok (.if_icmp .ne 35, 3) := by decide +kernel
theorem dX7_evaluate_73 : decode cX7_evaluate 73 = .ok (.iload_n 2, 1) := by decide +kernel
theorem dX7_evaluate_74 : decode cX7_evaluate 74 = .ok (.iconst 1, 1) := by decide +kernel
theorem dX7_evaluate_75 : decode cX7_evaluate 75 = .ok (.if_icmp .lt 30, 3) := by decide +kernel
theorem dX7_evaluate_78 : decode cX7_evaluate 78 = .ok (.aload_n 0, 1) := by decide +kernel
theorem dX7_evaluate_79 : decode cX7_evaluate 79 = .ok (.getfield 19, 3) := by decide +kernel
theorem dX7_evaluate_82 : decode cX7_evaluate 82 = .ok (.iload_n 2, 1) := by decide +kernel
theorem dX7_evaluate_83 : decode cX7_evaluate 83 = .ok (.iconst 1, 1) := by decide +kernel
theorem dX7_evaluate_84 : decode cX7_evaluate 84 = .ok (.isub, 1) := by decide +kernel
theorem dX7_evaluate_85 : decode cX7_evaluate 85 = .ok (.aload_n 0, 1) := by decide +kernel
theorem dX7_evaluate_86 : decode cX7_evaluate 86 = .ok (.getfield 19, 3) := by decide +kernel
theorem dX7_evaluate_89 : decode cX7_evaluate 89 = .ok (.iload_n 2, 1) := by decide +kernel
theorem dX7_evaluate_90 : decode cX7_evaluate 90 = .ok (.iconst 1, 1) := by decide +kernel
theorem dX7_evaluate_91 : decode cX7_evaluate 91 = .ok (.isub, 1) := by decide +kernel
theorem dX7_evaluate_92 : decode cX7_evaluate 92 = .ok (.iaload, 1) := by decide +kernel
theorem dX7_evaluate_93 : decode cX7_evaluate 93 = .ok (.ifCond .ne 7, 3) := by decide +kernel
theorem dX7_evaluate_96 : decode cX7_evaluate 96 = .ok (.iconst 1, 1) := by decide +kernel
theorem dX7_evaluate_97 : decode cX7_evaluate 97 = .ok (.goto 4, 3) := by decide +kernel
theorem dX7_evaluate_100 : decode cX7_evaluate 100 = .ok (.iconst 0, 1) := by decide +kernel
theorem dX7_evaluate_101 : decode cX7_evaluate 101 = .ok (.iastore, 1) := by decide +kernel
theorem dX7_evaluate_102 : decode cX7_evaluate 102 = .ok (.goto 38, 3) := by decide +kernel
theorem dX7_evaluate_105 : decode cX7_evaluate 105 = .ok (.iload_n 2, 1) := by decide +kernel
theorem dX7_evaluate_106 : decode cX7_evaluate 106 = .ok (.iconst 2, 1) := by decide +kernel
theorem dX7_evaluate_107 : decode cX7_evaluate 107 = .ok (.if_icmp .lt 33, 3) := by decide +kernel
theorem dX7_evaluate_110 : decode cX7_evaluate 110 = .ok (.iinc 2 (-1), 3) := by decide +kernel
theorem dX7_evaluate_113 : decode cX7_evaluate 113 = .ok (.aload_n 0, 1) := by decide +kernel
theorem dX7_evaluate_114 : decode cX7_evaluate 114 = .ok (.getfield 19, 3) := by decide +kernel
theorem dX7_evaluate_117 : decode cX7_evaluate 117 = .ok (.iload_n 2, 1) := by decide +kernel
theorem dX7_evaluate_118 : decode cX7_evaluate 118 = .ok (.iconst 1, 1) := by decide +kernel
theorem dX7_evaluate_119 : decode cX7_evaluate 119 = .ok (.isub, 1) := by decide +kernel
theorem dX7_evaluate_120 : decode cX7_evaluate 120 = .ok (.iload 4, 2) := by decide +kernel
theorem dX7_evaluate_122 : decode cX7_evaluate 122 = .ok (.aload_n 0, 1) := by decide +kernel
theorem dX7_evaluate_123 : decode cX7_evaluate 123 = .ok (.getfield 19, 3) := by decide +kernel
theorem dX7_evaluate_126 : decode cX7_evaluate 126 = .ok (.iload_n 2, 1) := by decide +kernel
theorem dX7_evaluate_127 : decode cX7_evaluate 127 = .ok (.iconst 1, 1) := by decide +kernel
theorem dX7_evaluate_128 : decode cX7_evaluate 128 = .ok (.isub, 1) := by decide +kernel
theorem dX7_evaluate_129 : decode cX7_evaluate 129 = .ok (.iaload, 1) := by decide +kernel
theorem dX7_evaluate_130 : decode cX7_evaluate 130 = .ok (.aload_n 0, 1) := by decide +kernel
theorem dX7_evaluate_131 : decode cX7_evaluate 131 = .ok (.getfield 19, 3) := by decide +kernel
theorem dX7_evaluate_134 : decode cX7_evaluate 134 = .ok (.iload_n 2, 1) := by decide +kernel
theorem dX7_evaluate_135 : decode cX7_evaluate 135 = .ok (.iaload, 1) := by decide +kernel
theorem dX7_evaluate_136 : decode cX7_evaluate 136 = .ok (.invokestatic 30, 3) := by decide +kernel
theorem dX7_evaluate_139 : decode cX7_evaluate 139 = .ok (.iastore, 1) := by decide +kernel
theorem dX7_evaluate_140 : decode cX7_evaluate 140 = .ok (.iinc 3 1, 3) := by decide +kernel
theorem dX7_evaluate_143 : decode cX7_evaluate 143 = .ok (.goto (-139), 3) := by decide +kernel
theorem dX7_evaluate_146 : decode cX7_evaluate 146 = .ok (.iload_n 2, 1) := by decide +kernel
theorem dX7_evaluate_147 : decode cX7_evaluate 147 = .ok (.ifCond .le 12, 3) := by decide +kernel
theorem dX7_evaluate_150 : decode cX7_evaluate 150 = .ok (.aload_n 0, 1) := by decide +kernel
theorem dX7_evaluate_151 : decode cX7_evaluate 151 = .ok (.getfield 19, 3) := by decide +kernel
theorem dX7_evaluate_154 : decode cX7_evaluate 154 = .ok (.iconst 0, 1) := by decide +kernel
theorem dX7_evaluate_155 : decode cX7_evaluate 155 = .ok (.iaload, 1) := by decide +kernel
theorem dX7_evaluate_156 : decode cX7_evaluate 156 = .ok (.goto 4, 3) := by decide +kernel
theorem dX7_evaluate_159 : decode cX7_evaluate 159 = .ok (.iconst 0, 1) := by decide +kernel
theorem dX7_evaluate_160 : decode cX7_evaluate 160 = .ok (.ireturn, 1) := by decide +kernel
theorem dX7_valueOf_0 : decode cX7_valueOf 0 = .ok (.iload_n 1, 1) := by decide +kernel
theorem dX7_valueOf_1 : decode cX7_valueOf 1 = .ok (.aload_n 0, 1) := by decide +kernel
theorem dX7_valueOf_2 : decode cX7_valueOf 2 = .ok (.arraylength, 1) := by decide +kernel
theorem dX7_valueOf_3 : decode cX7_valueOf 3 = .ok (.if_icmp .ge 9, 3) := by decide +kernel
theorem dX7_valueOf_6 : decode cX7_valueOf 6 = .ok (.aload_n 0, 1) := by decide +kernel
theorem dX7_valueOf_7 : decode cX7_valueOf 7 = .ok (.iload_n 1, 1) := by decide +kernel
theorem dX7_valueOf_8 : decode cX7_valueOf 8 = .ok (.iaload, 1) := by decide +kernel
theorem dX7_valueOf_9 : decode cX7_valueOf 9 = .ok (.goto 4, 3) := by decide +kernel
theorem dX7_valueOf_12 : decode cX7_valueOf 12 = .ok (.iconst 0, 1) := by decide +kernel
theorem dX7_valueOf_13 : decode cX7_valueOf 13 = .ok (.ireturn, 1) := by decide +kernel
theorem dX7_joined_0 : decode cX7_joined 0 = .ok (.iload_n 0, 1) := by decide +kernel
theorem dX7_joined_1 : decode cX7_joined 1 = .ok (.tableswitch 105 (-17) (-11) #[101, 97, 93, 82, 71, 57, 43], 43) := by decide +kernel
theorem dX7_joined_44 : decode cX7_joined 44 = .ok (.iload_n 1, 1) := by decide +kernel
theorem dX7_joined_45 : decode cX7_joined 45 = .ok (.ifCond .ne 7, 3) := by decide +kernel
theorem dX7_joined_48 : decode cX7_joined 48 = .ok (.iload_n 2, 1) := by decide +kernel
theorem dX7_joined_49 : decode cX7_joined 49 = .ok (.ifCond .eq 7, 3) := by decide +kernel
theorem dX7_joined_52 : decode cX7_joined 52 = .ok (.iconst 1, 1) := by decide +kernel
theorem dX7_joined_53 : decode cX7_joined 53 = .ok (.goto 4, 3) := by decide +kernel
theorem dX7_joined_56 : decode cX7_joined 56 = .ok (.iconst 0, 1) := by decide +kernel
theorem dX7_joined_57 : decode cX7_joined 57 = .ok (.ireturn, 1) := by decide +kernel
theorem dX7_joined_58 : decode cX7_joined 58 = .ok (.iload_n 1, 1) := by decide +kernel
theorem dX7_joined_59 : decode cX7_joined 59 = .ok (.ifCond .eq 11, 3) := by decide +kernel
theorem dX7_joined_62 : decode cX7_joined 62 = .ok (.iload_n 2, 1) := by decide +kernel
theorem dX7_joined_63 : decode cX7_joined 63 = .ok (.ifCond .eq 7, 3) := by decide +kernel
theorem dX7_joined_66 : decode cX7_joined 66 = .ok (.iconst 1, 1) := by decide +kernel
theorem dX7_joined_67 : decode cX7_joined 67 = .ok (.goto 4, 3) := by decide +kernel
theorem dX7_joined_70 : decode cX7_joined 70 = .ok (.iconst 0, 1) := by decide +kernel
theorem dX7_joined_71 : decode cX7_joined 71 = .ok (.ireturn, 1) := by decide +kernel
theorem dX7_joined_72 : decode cX7_joined 72 = .ok (.iload_n 1, 1) := by decide +kernel
theorem dX7_joined_73 : decode cX7_joined 73 = .ok (.iload_n 2, 1) := by decide +kernel
theorem dX7_joined_74 : decode cX7_joined 74 = .ok (.if_icmp .ge 7, 3) := by decide +kernel
theorem dX7_joined_77 : decode cX7_joined 77 = .ok (.iconst 1, 1) := by decide +kernel
theorem dX7_joined_78 : decode cX7_joined 78 = .ok (.goto 4, 3) := by decide +kernel
theorem dX7_joined_81 : decode cX7_joined 81 = .ok (.iconst 0, 1) := by decide +kernel
theorem dX7_joined_82 : decode cX7_joined 82 = .ok (.ireturn, 1) := by decide +kernel
theorem dX7_joined_83 : decode cX7_joined 83 = .ok (.iload_n 1, 1) := by decide +kernel
theorem dX7_joined_84 : decode cX7_joined 84 = .ok (.iload_n 2, 1) := by decide +kernel
theorem dX7_joined_85 : decode cX7_joined 85 = .ok (.if_icmp .ne 7, 3) := by decide +kernel
theorem dX7_joined_88 : decode cX7_joined 88 = .ok (.iconst 1, 1) := by decide +kernel
theorem dX7_joined_89 : decode cX7_joined 89 = .ok (.goto 4, 3) := by decide +kernel
theorem dX7_joined_92 : decode cX7_joined 92 = .ok (.iconst 0, 1) := by decide +kernel
theorem dX7_joined_93 : decode cX7_joined 93 = .ok (.ireturn, 1) := by decide +kernel
theorem dX7_joined_94 : decode cX7_joined 94 = .ok (.iload_n 1, 1) := by decide +kernel
theorem dX7_joined_95 : decode cX7_joined 95 = .ok (.iload_n 2, 1) := by decide +kernel
theorem dX7_joined_96 : decode cX7_joined 96 = .ok (.iadd, 1) := by decide +kernel
theorem dX7_joined_97 : decode cX7_joined 97 = .ok (.ireturn, 1) := by decide +kernel
theorem dX7_joined_98 : decode cX7_joined 98 = .ok (.iload_n 1, 1) := by decide +kernel
theorem dX7_joined_99 : decode cX7_joined 99 = .ok (.iload_n 2, 1) := by decide +kernel
theorem dX7_joined_100 : decode cX7_joined 100 = .ok (.isub, 1) := by decide +kernel
theorem dX7_joined_101 : decode cX7_joined 101 = .ok (.ireturn, 1) := by decide +kernel
theorem dX7_joined_102 : decode cX7_joined 102 = .ok (.iload_n 1, 1) := by decide +kernel
theorem dX7_joined_103 : decode cX7_joined 103 = .ok (.iload_n 2, 1) := by decide +kernel
theorem dX7_joined_104 : decode cX7_joined 104 = .ok (.imul, 1) := by decide +kernel
theorem dX7_joined_105 : decode cX7_joined 105 = .ok (.ireturn, 1) := by decide +kernel
theorem dX7_joined_106 : decode cX7_joined 106 = .ok (.iload_n 2, 1) := by decide +kernel
theorem dX7_joined_107 : decode cX7_joined 107 = .ok (.ifCond .ne 7, 3) := by decide +kernel
theorem dX7_joined_110 : decode cX7_joined 110 = .ok (.iconst 0, 1) := by decide +kernel
theorem dX7_joined_111 : decode cX7_joined 111 = .ok (.goto 6, 3) := by decide +kernel
theorem dX7_joined_114 : decode cX7_joined 114 = .ok (.iload_n 1, 1) := by decide +kernel
theorem dX7_joined_115 : decode cX7_joined 115 = .ok (.iload_n 2, 1) := by decide +kernel
theorem dX7_joined_116 : decode cX7_joined 116 = .ok (.idiv, 1) := by decide +kernel
theorem dX7_joined_117 : decode cX7_joined 117 = .ok (.ireturn, 1) := by decide +kernel
theorem dX8_init_0 : decode cX8_init 0 = .ok (.aload_n 0, 1) := by decide +kernel
theorem dX8_init_1 : decode cX8_init 1 = .ok (.invokespecial 3, 3) := by decide +kernel
theorem dX8_init_4 : decode cX8_init 4 = .ok (.aload_n 0, 1) := by decide +kernel
theorem dX8_init_5 : decode cX8_init 5 = .ok (.iconst 0, 1) := by decide +kernel
theorem dX8_init_6 : decode cX8_init 6 = .ok (.putfield 9, 3) := by decide +kernel
theorem dX8_init_9 : decode cX8_init 9 = .ok (.aload_n 0, 1) := by decide +kernel
theorem dX8_init_10 : decode cX8_init 10 = .ok (.bipush 8, 2) := by decide +kernel
theorem dX8_init_12 : decode cX8_init 12 = .ok (.newarray .int, 2) := by decide +kernel
theorem dX8_init_14 : decode cX8_init 14 = .ok (.putfield 15, 3) := by decide +kernel
theorem dX8_init_17 : decode cX8_init 17 = .ok (.aload_n 0, 1) := by decide +kernel
theorem dX8_init_18 : decode cX8_init 18 = .ok (.bipush 8, 2) := by decide +kernel
theorem dX8_init_20 : decode cX8_init 20 = .ok (.newarray .int, 2) := by decide +kernel
theorem dX8_init_22 : decode cX8_init 22 = .ok (.putfield 19, 3) := by decide +kernel
theorem dX8_init_25 : decode cX8_init 25 = .ok (.aload_n 0, 1) := by decide +kernel
theorem dX8_init_26 : decode cX8_init 26 = .ok (.bipush 8, 2) := by decide +kernel
theorem dX8_init_28 : decode cX8_init 28 = .ok (.newarray .int, 2) := by decide +kernel
theorem dX8_init_30 : decode cX8_init 30 = .ok (.putfield 22, 3) := by decide +kernel
theorem dX8_init_33 : decode cX8_init 33 = .ok (.return_, 1) := by decide +kernel
theorem dX8_drop_0 : decode cX8_drop 0 = .ok (.aload_n 0, 1) := by decide +kernel
theorem dX8_drop_1 : decode cX8_drop 1 = .ok (.iconst 0, 1) := by decide +kernel
theorem dX8_drop_2 : decode cX8_drop 2 = .ok (.putfield 9, 3) := by decide +kernel
theorem dX8_drop_5 : decode cX8_drop 5 = .ok (.return_, 1) := by decide +kernel
theorem dX8_keep_0 : decode cX8_keep 0 = .ok (.aload_n 0, 1) := by decide +kernel
theorem dX8_keep_1 : decode cX8_keep 1 = .ok (.getfield 9, 3) := by decide +kernel
theorem dX8_keep_4 : decode cX8_keep 4 = .ok (.bipush 8, 2) := by decide +kernel
theorem dX8_keep_6 : decode cX8_keep 6 = .ok (.if_icmp .ge 43, 3) := by decide +kernel
theorem dX8_keep_9 : decode cX8_keep 9 = .ok (.aload_n 0, 1) := by decide +kernel
theorem dX8_keep_10 : decode cX8_keep 10 = .ok (.getfield 15, 3) := by decide +kernel
theorem dX8_keep_13 : decode cX8_keep 13 = .ok (.aload_n 0, 1) := by decide +kernel
theorem dX8_keep_14 : decode cX8_keep 14 = .ok (.getfield 9, 3) := by decide +kernel
theorem dX8_keep_17 : decode cX8_keep 17 = .ok (.iload_n 1, 1) := by decide +kernel
theorem dX8_keep_18 : decode cX8_keep 18 = .ok (.iastore, 1) := by decide +kernel
theorem dX8_keep_19 : decode cX8_keep 19 = .ok (.aload_n 0, 1) := by decide +kernel
theorem dX8_keep_20 : decode cX8_keep 20 = .ok (.getfield 19, 3) := by decide +kernel
theorem dX8_keep_23 : decode cX8_keep 23 = .ok (.aload_n 0, 1) := by decide +kernel
theorem dX8_keep_24 : decode cX8_keep 24 = .ok (.getfield 9, 3) := by decide +kernel
theorem dX8_keep_27 : decode cX8_keep 27 = .ok (.iload_n 2, 1) := by decide +kernel
theorem dX8_keep_28 : decode cX8_keep 28 = .ok (.iastore, 1) := by decide +kernel
theorem dX8_keep_29 : decode cX8_keep 29 = .ok (.aload_n 0, 1) := by decide +kernel
theorem dX8_keep_30 : decode cX8_keep 30 = .ok (.getfield 22, 3) := by decide +kernel
theorem dX8_keep_33 : decode cX8_keep 33 = .ok (.aload_n 0, 1) := by decide +kernel
theorem dX8_keep_34 : decode cX8_keep 34 = .ok (.getfield 9, 3) := by decide +kernel
theorem dX8_keep_37 : decode cX8_keep 37 = .ok (.iload_n 3, 1) := by decide +kernel
theorem dX8_keep_38 : decode cX8_keep 38 = .ok (.iastore, 1) := by decide +kernel
theorem dX8_keep_39 : decode cX8_keep 39 = .ok (.aload_n 0, 1) := by decide +kernel
theorem dX8_keep_40 : decode cX8_keep 40 = .ok (.dup, 1) := by decide +kernel
theorem dX8_keep_41 : decode cX8_keep 41 = .ok (.getfield 9, 3) := by decide +kernel
theorem dX8_keep_44 : decode cX8_keep 44 = .ok (.iconst 1, 1) := by decide +kernel
theorem dX8_keep_45 : decode cX8_keep 45 = .ok (.iadd, 1) := by decide +kernel
theorem dX8_keep_46 : decode cX8_keep 46 = .ok (.putfield 9, 3) := by decide +kernel
theorem dX8_keep_49 : decode cX8_keep 49 = .ok (.return_, 1) := by decide +kernel
theorem dX8_copyFrom_0 : decode cX8_copyFrom 0 = .ok (.aload_n 0, 1) := by decide +kernel
theorem dX8_copyFrom_1 : decode cX8_copyFrom 1 = .ok (.aload_n 1, 1) := by decide +kernel
theorem dX8_copyFrom_2 : decode cX8_copyFrom 2 = .ok (.getfield 9, 3) := by decide +kernel
theorem dX8_copyFrom_5 : decode cX8_copyFrom 5 = .ok (.putfield 9, 3) := by decide +kernel
theorem dX8_copyFrom_8 : decode cX8_copyFrom 8 = .ok (.aload_n 1, 1) := by decide +kernel
theorem dX8_copyFrom_9 : decode cX8_copyFrom 9 = .ok (.getfield 15, 3) := by decide +kernel
theorem dX8_copyFrom_12 : decode cX8_copyFrom 12 = .ok (.iconst 0, 1) := by decide +kernel
theorem dX8_copyFrom_13 : decode cX8_copyFrom 13 = .ok (.aload_n 0, 1) := by decide +kernel
theorem dX8_copyFrom_14 : decode cX8_copyFrom 14 = .ok (.getfield 15, 3) := by decide +kernel
theorem dX8_copyFrom_17 : decode cX8_copyFrom 17 = .ok (.iconst 0, 1) := by decide +kernel
theorem dX8_copyFrom_18 : decode cX8_copyFrom 18 = .ok (.bipush 8, 2) := by decide +kernel
theorem dX8_copyFrom_20 : decode cX8_copyFrom 20 = .ok (.invokestatic 25, 3) := by decide +kernel
theorem dX8_copyFrom_23 : decode cX8_copyFrom 23 = .ok (.aload_n 1, 1) := by decide +kernel
theorem dX8_copyFrom_24 : decode cX8_copyFrom 24 = .ok (.getfield 19, 3) := by decide +kernel
theorem dX8_copyFrom_27 : decode cX8_copyFrom 27 = .ok (.iconst 0, 1) := by decide +kernel
theorem dX8_copyFrom_28 : decode cX8_copyFrom 28 = .ok (.aload_n 0, 1) := by decide +kernel
theorem dX8_copyFrom_29 : decode cX8_copyFrom 29 = .ok (.getfield 19, 3) := by decide +kernel
theorem dX8_copyFrom_32 : decode cX8_copyFrom 32 = .ok (.iconst 0, 1) := by decide +kernel
theorem dX8_copyFrom_33 : decode cX8_copyFrom 33 = .ok (.bipush 8, 2) := by decide +kernel
theorem dX8_copyFrom_35 : decode cX8_copyFrom 35 = .ok (.invokestatic 25, 3) := by decide +kernel
theorem dX8_copyFrom_38 : decode cX8_copyFrom 38 = .ok (.aload_n 1, 1) := by decide +kernel
theorem dX8_copyFrom_39 : decode cX8_copyFrom 39 = .ok (.getfield 22, 3) := by decide +kernel
theorem dX8_copyFrom_42 : decode cX8_copyFrom 42 = .ok (.iconst 0, 1) := by decide +kernel
theorem dX8_copyFrom_43 : decode cX8_copyFrom 43 = .ok (.aload_n 0, 1) := by decide +kernel
theorem dX8_copyFrom_44 : decode cX8_copyFrom 44 = .ok (.getfield 22, 3) := by decide +kernel
theorem dX8_copyFrom_47 : decode cX8_copyFrom 47 = .ok (.iconst 0, 1) := by decide +kernel
theorem dX8_copyFrom_48 : decode cX8_copyFrom 48 = .ok (.bipush 8, 2) := by decide +kernel
theorem dX8_copyFrom_50 : decode cX8_copyFrom 50 = .ok (.invokestatic 25, 3) := by decide +kernel
theorem dX8_copyFrom_53 : decode cX8_copyFrom 53 = .ok (.return_, 1) := by decide +kernel
theorem dX8_lastDay_0 : decode cX8_lastDay 0 = .ok (.iconst (-1), 1) := by decide +kernel
theorem dX8_lastDay_1 : decode cX8_lastDay 1 = .ok (.istore_n 1, 1) := by decide +kernel
theorem dX8_lastDay_2 : decode cX8_lastDay 2 = .ok (.iconst 0, 1) := by decide +kernel
theorem dX8_lastDay_3 : decode cX8_lastDay 3 = .ok (.istore_n 2, 1) := by decide +kernel
theorem dX8_lastDay_4 : decode cX8_lastDay 4 = .ok (.iload_n 2, 1) := by decide +kernel
theorem dX8_lastDay_5 : decode cX8_lastDay 5 = .ok (.aload_n 0, 1) := by decide +kernel
theorem dX8_lastDay_6 : decode cX8_lastDay 6 = .ok (.getfield 9, 3) := by decide +kernel
theorem dX8_lastDay_9 : decode cX8_lastDay 9 = .ok (.if_icmp .ge 20, 3) := by decide +kernel
theorem dX8_lastDay_12 : decode cX8_lastDay 12 = .ok (.iload_n 1, 1) := by decide +kernel
theorem dX8_lastDay_13 : decode cX8_lastDay 13 = .ok (.aload_n 0, 1) := by decide +kernel
theorem dX8_lastDay_14 : decode cX8_lastDay 14 = .ok (.getfield 22, 3) := by decide +kernel
theorem dX8_lastDay_17 : decode cX8_lastDay 17 = .ok (.iload_n 2, 1) := by decide +kernel
theorem dX8_lastDay_18 : decode cX8_lastDay 18 = .ok (.iaload, 1) := by decide +kernel
theorem dX8_lastDay_19 : decode cX8_lastDay 19 = .ok (.invokestatic 31, 3) := by decide +kernel
theorem dX8_lastDay_22 : decode cX8_lastDay 22 = .ok (.istore_n 1, 1) := by decide +kernel
theorem dX8_lastDay_23 : decode cX8_lastDay 23 = .ok (.iinc 2 1, 3) := by decide +kernel
theorem dX8_lastDay_26 : decode cX8_lastDay 26 = .ok (.goto (-22), 3) := by decide +kernel
theorem dX8_lastDay_29 : decode cX8_lastDay 29 = .ok (.iload_n 1, 1) := by decide +kernel
theorem dX8_lastDay_30 : decode cX8_lastDay 30 = .ok (.ireturn, 1) := by decide +kernel
theorem dX8_agreesOn_0 : decode cX8_agreesOn 0 = .ok (.iconst 0, 1) := by decide +kernel
theorem dX8_agreesOn_1 : decode cX8_agreesOn 1 = .ok (.istore_n 3, 1) := by decide +kernel
theorem dX8_agreesOn_2 : decode cX8_agreesOn 2 = .ok (.iload_n 3, 1) := by decide +kernel
theorem dX8_agreesOn_3 : decode cX8_agreesOn 3 = .ok (.aload_n 0, 1) := by decide +kernel
theorem dX8_agreesOn_4 : decode cX8_agreesOn 4 = .ok (.getfield 9, 3) := by decide +kernel
theorem dX8_agreesOn_7 : decode cX8_agreesOn 7 = .ok (.if_icmp .ge 44, 3) := by decide +kernel
theorem dX8_agreesOn_10 : decode cX8_agreesOn 10 = .ok (.aload_n 0, 1) := by decide +kernel
theorem dX8_agreesOn_11 : decode cX8_agreesOn 11 = .ok (.getfield 22, 3) := by decide +kernel
theorem dX8_agreesOn_14 : decode cX8_agreesOn 14 = .ok (.iload_n 3, 1) := by decide +kernel
theorem dX8_agreesOn_15 : decode cX8_agreesOn 15 = .ok (.iaload, 1) := by decide +kernel
theorem dX8_agreesOn_16 : decode cX8_agreesOn 16 = .ok (.iload_n 1, 1) := by decide +kernel
theorem dX8_agreesOn_17 : decode cX8_agreesOn 17 = .ok (.if_icmp .ne 28, 3) := by decide +kernel
theorem dX8_agreesOn_20 : decode cX8_agreesOn 20 = .ok (.aload_n 2, 1) := by decide +kernel
theorem dX8_agreesOn_21 : decode cX8_agreesOn 21 = .ok (.getfield 37, 3) := by decide +kernel
theorem dX8_agreesOn_24 : decode cX8_agreesOn 24 = .ok (.aload_n 0, 1) := by decide +kernel
theorem dX8_agreesOn_25 : decode cX8_agreesOn 25 = .ok (.getfield 15, 3) := by decide +kernel
theorem dX8_agreesOn_28 : decode cX8_agreesOn 28 = .ok (.iload_n 3, 1) := by decide +kernel
theorem dX8_agreesOn_29 : decode cX8_agreesOn 29 = .ok (.iaload, 1) := by decide +kernel
theorem dX8_agreesOn_30 : decode cX8_agreesOn 30 = .ok (.iaload, 1) := by decide +kernel
theorem dX8_agreesOn_31 : decode cX8_agreesOn 31 = .ok (.bipush 8, 2) := by decide +kernel
theorem dX8_agreesOn_33 : decode cX8_agreesOn 33 = .ok (.idiv, 1) := by decide +kernel
theorem dX8_agreesOn_34 : decode cX8_agreesOn 34 = .ok (.aload_n 0, 1) := by decide +kernel
theorem dX8_agreesOn_35 : decode cX8_agreesOn 35 = .ok (.getfield 19, 3) := by decide +kernel
theorem dX8_agreesOn_38 : decode cX8_agreesOn 38 = .ok (.iload_n 3, 1) := by decide +kernel
theorem dX8_agreesOn_39 : decode cX8_agreesOn 39 = .ok (.iaload, 1) := by decide +kernel
theorem dX8_agreesOn_40 : decode cX8_agreesOn 40 = .ok (.if_icmp .eq 5, 3) := by decide +kernel
theorem dX8_agreesOn_43 : decode cX8_agreesOn 43 = .ok (.iconst 0, 1) := by decide +kernel
theorem dX8_agreesOn_44 : decode cX8_agreesOn 44 = .ok (.ireturn, 1) := by decide +kernel
theorem dX8_agreesOn_45 : decode cX8_agreesOn 45 = .ok (.iinc 3 1, 3) := by decide +kernel
theorem dX8_agreesOn_48 : decode cX8_agreesOn 48 = .ok (.goto (-46), 3) := by decide +kernel
theorem dX8_agreesOn_51 : decode cX8_agreesOn 51 = .ok (.iconst 1, 1) := by decide +kernel
theorem dX8_agreesOn_52 : decode cX8_agreesOn 52 = .ok (.ireturn, 1) := by decide +kernel
theorem dX9_init_0 : decode cX9_init 0 = .ok (.aload_n 0, 1) := by decide +kernel
theorem dX9_init_1 : decode cX9_init 1 = .ok (.invokespecial 3, 3) := by decide +kernel
theorem dX9_init_4 : decode cX9_init 4 = .ok (.aload_n 0, 1) := by decide +kernel
theorem dX9_init_5 : decode cX9_init 5 = .ok (.iconst 0, 1) := by decide +kernel
theorem dX9_init_6 : decode cX9_init 6 = .ok (.putfield 9, 3) := by decide +kernel
theorem dX9_init_9 : decode cX9_init 9 = .ok (.aload_n 0, 1) := by decide +kernel
theorem dX9_init_10 : decode cX9_init 10 = .ok (.lconst 0, 1) := by decide +kernel
theorem dX9_init_11 : decode cX9_init 11 = .ok (.putfield 15, 3) := by decide +kernel
theorem dX9_init_14 : decode cX9_init 14 = .ok (.aload_n 0, 1) := by decide +kernel
theorem dX9_init_15 : decode cX9_init 15 = .ok (.lconst 0, 1) := by decide +kernel
theorem dX9_init_16 : decode cX9_init 16 = .ok (.putfield 19, 3) := by decide +kernel
theorem dX9_init_19 : decode cX9_init 19 = .ok (.aload_n 0, 1) := by decide +kernel
theorem dX9_init_20 : decode cX9_init 20 = .ok (.bipush 48, 2) := by decide +kernel
theorem dX9_init_22 : decode cX9_init 22 = .ok (.newarray .int, 2) := by decide +kernel
theorem dX9_init_24 : decode cX9_init 24 = .ok (.putfield 22, 3) := by decide +kernel
theorem dX9_init_27 : decode cX9_init 27 = .ok (.aload_n 0, 1) := by decide +kernel
theorem dX9_init_28 : decode cX9_init 28 = .ok (.bipush 6, 2) := by decide +kernel
theorem dX9_init_30 : decode cX9_init 30 = .ok (.newarray .int, 2) := by decide +kernel
theorem dX9_init_32 : decode cX9_init 32 = .ok (.putfield 26, 3) := by decide +kernel
theorem dX9_init_35 : decode cX9_init 35 = .ok (.aload_n 0, 1) := by decide +kernel
theorem dX9_init_36 : decode cX9_init 36 = .ok (.bipush 6, 2) := by decide +kernel
theorem dX9_init_38 : decode cX9_init 38 = .ok (.newarray .int, 2) := by decide +kernel
theorem dX9_init_40 : decode cX9_init 40 = .ok (.putfield 29, 3) := by decide +kernel
theorem dX9_init_43 : decode cX9_init 43 = .ok (.aload_n 0, 1) := by decide +kernel
theorem dX9_init_44 : decode cX9_init 44 = .ok (.bipush 6, 2) := by decide +kernel
theorem dX9_init_46 : decode cX9_init 46 = .ok (.newarray .int, 2) := by decide +kernel
theorem dX9_init_48 : decode cX9_init 48 = .ok (.putfield 32, 3) := by decide +kernel
theorem dX9_init_51 : decode cX9_init 51 = .ok (.aload_n 0, 1) := by decide +kernel
theorem dX9_init_52 : decode cX9_init 52 = .ok (.invokevirtual 35, 3) := by decide +kernel
theorem dX9_init_55 : decode cX9_init 55 = .ok (.return_, 1) := by decide +kernel
theorem dX9_empty_0 : decode cX9_empty 0 = .ok (.aload_n 0, 1) := by decide +kernel
theorem dX9_empty_1 : decode cX9_empty 1 = .ok (.iconst 0, 1) := by decide +kernel
theorem dX9_empty_2 : decode cX9_empty 2 = .ok (.putfield 9, 3) := by decide +kernel
theorem dX9_empty_5 : decode cX9_empty 5 = .ok (.aload_n 0, 1) := by decide +kernel
theorem dX9_empty_6 : decode cX9_empty 6 = .ok (.lconst 0, 1) := by decide +kernel
theorem dX9_empty_7 : decode cX9_empty 7 = .ok (.putfield 15, 3) := by decide +kernel
theorem dX9_empty_10 : decode cX9_empty 10 = .ok (.aload_n 0, 1) := by decide +kernel
theorem dX9_empty_11 : decode cX9_empty 11 = .ok (.lconst 0, 1) := by decide +kernel
theorem dX9_empty_12 : decode cX9_empty 12 = .ok (.putfield 19, 3) := by decide +kernel
theorem dX9_empty_15 : decode cX9_empty 15 = .ok (.iconst 0, 1) := by decide +kernel
theorem dX9_empty_16 : decode cX9_empty 16 = .ok (.istore_n 1, 1) := by decide +kernel
theorem dX9_empty_17 : decode cX9_empty 17 = .ok (.iload_n 1, 1) := by decide +kernel
theorem dX9_empty_18 : decode cX9_empty 18 = .ok (.bipush 48, 2) := by decide +kernel
theorem dX9_empty_20 : decode cX9_empty 20 = .ok (.if_icmp .ge 16, 3) := by decide +kernel
theorem dX9_empty_23 : decode cX9_empty 23 = .ok (.aload_n 0, 1) := by decide +kernel
theorem dX9_empty_24 : decode cX9_empty 24 = .ok (.getfield 22, 3) := by decide +kernel
theorem dX9_empty_27 : decode cX9_empty 27 = .ok (.iload_n 1, 1) := by decide +kernel
theorem dX9_empty_28 : decode cX9_empty 28 = .ok (.iconst 0, 1) := by decide +kernel
theorem dX9_empty_29 : decode cX9_empty 29 = .ok (.iastore, 1) := by decide +kernel
theorem dX9_empty_30 : decode cX9_empty 30 = .ok (.iinc 1 1, 3) := by decide +kernel
theorem dX9_empty_33 : decode cX9_empty 33 = .ok (.goto (-16), 3) := by decide +kernel
theorem dX9_empty_36 : decode cX9_empty 36 = .ok (.iconst 0, 1) := by decide +kernel
theorem dX9_empty_37 : decode cX9_empty 37 = .ok (.istore_n 1, 1) := by decide +kernel
theorem dX9_empty_38 : decode cX9_empty 38 = .ok (.iload_n 1, 1) := by decide +kernel
theorem dX9_empty_39 : decode cX9_empty 39 = .ok (.bipush 6, 2) := by decide +kernel
theorem dX9_empty_41 : decode cX9_empty 41 = .ok (.if_icmp .ge 30, 3) := by decide +kernel
theorem dX9_empty_44 : decode cX9_empty 44 = .ok (.aload_n 0, 1) := by decide +kernel
theorem dX9_empty_45 : decode cX9_empty 45 = .ok (.getfield 26, 3) := by decide +kernel
theorem dX9_empty_48 : decode cX9_empty 48 = .ok (.iload_n 1, 1) := by decide +kernel
theorem dX9_empty_49 : decode cX9_empty 49 = .ok (.iconst (-1), 1) := by decide +kernel
theorem dX9_empty_50 : decode cX9_empty 50 = .ok (.iastore, 1) := by decide +kernel
theorem dX9_empty_51 : decode cX9_empty 51 = .ok (.aload_n 0, 1) := by decide +kernel
theorem dX9_empty_52 : decode cX9_empty 52 = .ok (.getfield 29, 3) := by decide +kernel
theorem dX9_empty_55 : decode cX9_empty 55 = .ok (.iload_n 1, 1) := by decide +kernel
theorem dX9_empty_56 : decode cX9_empty 56 = .ok (.iconst (-1), 1) := by decide +kernel
theorem dX9_empty_57 : decode cX9_empty 57 = .ok (.iastore, 1) := by decide +kernel
theorem dX9_empty_58 : decode cX9_empty 58 = .ok (.aload_n 0, 1) := by decide +kernel
theorem dX9_empty_59 : decode cX9_empty 59 = .ok (.getfield 32, 3) := by decide +kernel
theorem dX9_empty_62 : decode cX9_empty 62 = .ok (.iload_n 1, 1) := by decide +kernel
theorem dX9_empty_63 : decode cX9_empty 63 = .ok (.iconst 0, 1) := by decide +kernel
theorem dX9_empty_64 : decode cX9_empty 64 = .ok (.iastore, 1) := by decide +kernel
theorem dX9_empty_65 : decode cX9_empty 65 = .ok (.iinc 1 1, 3) := by decide +kernel
theorem dX9_empty_68 : decode cX9_empty 68 = .ok (.goto (-30), 3) := by decide +kernel
theorem dX9_empty_71 : decode cX9_empty 71 = .ok (.return_, 1) := by decide +kernel
theorem dX9_copyFrom_0 : decode cX9_copyFrom 0 = .ok (.aload_n 0, 1) := by decide +kernel
theorem dX9_copyFrom_1 : decode cX9_copyFrom 1 = .ok (.aload_n 1, 1) := by decide +kernel
theorem dX9_copyFrom_2 : decode cX9_copyFrom 2 = .ok (.getfield 9, 3) := by decide +kernel
theorem dX9_copyFrom_5 : decode cX9_copyFrom 5 = .ok (.putfield 9, 3) := by decide +kernel
theorem dX9_copyFrom_8 : decode cX9_copyFrom 8 = .ok (.aload_n 0, 1) := by decide +kernel
theorem dX9_copyFrom_9 : decode cX9_copyFrom 9 = .ok (.aload_n 1, 1) := by decide +kernel
theorem dX9_copyFrom_10 : decode cX9_copyFrom 10 = .ok (.getfield 15, 3) := by decide +kernel
theorem dX9_copyFrom_13 : decode cX9_copyFrom 13 = .ok (.putfield 15, 3) := by decide +kernel
theorem dX9_copyFrom_16 : decode cX9_copyFrom 16 = .ok (.aload_n 0, 1) := by decide +kernel
theorem dX9_copyFrom_17 : decode cX9_copyFrom 17 = .ok (.aload_n 1, 1) := by decide +kernel
theorem dX9_copyFrom_18 : decode cX9_copyFrom 18 = .ok (.getfield 19, 3) := by decide +kernel
theorem dX9_copyFrom_21 : decode cX9_copyFrom 21 = .ok (.putfield 19, 3) := by decide +kernel
theorem dX9_copyFrom_24 : decode cX9_copyFrom 24 = .ok (.aload_n 1, 1) := by decide +kernel
theorem dX9_copyFrom_25 : decode cX9_copyFrom 25 = .ok (.getfield 22, 3) := by decide +kernel
theorem dX9_copyFrom_28 : decode cX9_copyFrom 28 = .ok (.iconst 0, 1) := by decide +kernel
theorem dX9_copyFrom_29 : decode cX9_copyFrom 29 = .ok (.aload_n 0, 1) := by decide +kernel
theorem dX9_copyFrom_30 : decode cX9_copyFrom 30 = .ok (.getfield 22, 3) := by decide +kernel
theorem dX9_copyFrom_33 : decode cX9_copyFrom 33 = .ok (.iconst 0, 1) := by decide +kernel
theorem dX9_copyFrom_34 : decode cX9_copyFrom 34 = .ok (.bipush 48, 2) := by decide +kernel
theorem dX9_copyFrom_36 : decode cX9_copyFrom 36 = .ok (.invokestatic 38, 3) := by decide +kernel
theorem dX9_copyFrom_39 : decode cX9_copyFrom 39 = .ok (.aload_n 1, 1) := by decide +kernel
theorem dX9_copyFrom_40 : decode cX9_copyFrom 40 = .ok (.getfield 26, 3) := by decide +kernel
theorem dX9_copyFrom_43 : decode cX9_copyFrom 43 = .ok (.iconst 0, 1) := by decide +kernel
theorem dX9_copyFrom_44 : decode cX9_copyFrom 44 = .ok (.aload_n 0, 1) := by decide +kernel
theorem dX9_copyFrom_45 : decode cX9_copyFrom 45 = .ok (.getfield 26, 3) := by decide +kernel
theorem dX9_copyFrom_48 : decode cX9_copyFrom 48 = .ok (.iconst 0, 1) := by decide +kernel
theorem dX9_copyFrom_49 : decode cX9_copyFrom 49 = .ok (.bipush 6, 2) := by decide +kernel
theorem dX9_copyFrom_51 : decode cX9_copyFrom 51 = .ok (.invokestatic 38, 3) := by decide +kernel
theorem dX9_copyFrom_54 : decode cX9_copyFrom 54 = .ok (.aload_n 1, 1) := by decide +kernel
theorem dX9_copyFrom_55 : decode cX9_copyFrom 55 = .ok (.getfield 29, 3) := by decide +kernel
theorem dX9_copyFrom_58 : decode cX9_copyFrom 58 = .ok (.iconst 0, 1) := by decide +kernel
theorem dX9_copyFrom_59 : decode cX9_copyFrom 59 = .ok (.aload_n 0, 1) := by decide +kernel
theorem dX9_copyFrom_60 : decode cX9_copyFrom 60 = .ok (.getfield 29, 3) := by decide +kernel
theorem dX9_copyFrom_63 : decode cX9_copyFrom 63 = .ok (.iconst 0, 1) := by decide +kernel
theorem dX9_copyFrom_64 : decode cX9_copyFrom 64 = .ok (.bipush 6, 2) := by decide +kernel
theorem dX9_copyFrom_66 : decode cX9_copyFrom 66 = .ok (.invokestatic 38, 3) := by decide +kernel
theorem dX9_copyFrom_69 : decode cX9_copyFrom 69 = .ok (.aload_n 1, 1) := by decide +kernel
theorem dX9_copyFrom_70 : decode cX9_copyFrom 70 = .ok (.getfield 32, 3) := by decide +kernel
theorem dX9_copyFrom_73 : decode cX9_copyFrom 73 = .ok (.iconst 0, 1) := by decide +kernel
theorem dX9_copyFrom_74 : decode cX9_copyFrom 74 = .ok (.aload_n 0, 1) := by decide +kernel
theorem dX9_copyFrom_75 : decode cX9_copyFrom 75 = .ok (.getfield 32, 3) := by decide +kernel
theorem dX9_copyFrom_78 : decode cX9_copyFrom 78 = .ok (.iconst 0, 1) := by decide +kernel
theorem dX9_copyFrom_79 : decode cX9_copyFrom 79 = .ok (.bipush 6, 2) := by decide +kernel
theorem dX9_copyFrom_81 : decode cX9_copyFrom 81 = .ok (.invokestatic 38, 3) := by decide +kernel
theorem dX9_copyFrom_84 : decode cX9_copyFrom 84 = .ok (.return_, 1) := by decide +kernel
theorem dX9_setInk_0 : decode cX9_setInk 0 = .ok (.aload_n 0, 1) := by decide +kernel
theorem dX9_setInk_1 : decode cX9_setInk 1 = .ok (.getfield 22, 3) := by decide +kernel
theorem dX9_setInk_4 : decode cX9_setInk 4 = .ok (.iload_n 1, 1) := by decide +kernel
theorem dX9_setInk_5 : decode cX9_setInk 5 = .ok (.iload_n 2, 1) := by decide +kernel
theorem dX9_setInk_6 : decode cX9_setInk 6 = .ok (.iastore, 1) := by decide +kernel
theorem dX9_setInk_7 : decode cX9_setInk 7 = .ok (.aload_n 0, 1) := by decide +kernel
theorem dX9_setInk_8 : decode cX9_setInk 8 = .ok (.iload_n 2, 1) := by decide +kernel
theorem dX9_setInk_9 : decode cX9_setInk 9 = .ok (.ifCond .ne 15, 3) := by decide +kernel
theorem dX9_setInk_12 : decode cX9_setInk 12 = .ok (.aload_n 0, 1) := by decide +kernel
theorem dX9_setInk_13 : decode cX9_setInk 13 = .ok (.getfield 15, 3) := by decide +kernel
theorem dX9_setInk_16 : decode cX9_setInk 16 = .ok (.iload_n 1, 1) := by decide +kernel
theorem dX9_setInk_17 : decode cX9_setInk 17 = .ok (.invokestatic 44, 3) := by decide +kernel
theorem dX9_setInk_20 : decode cX9_setInk 20 = .ok (.lor, 1) := by decide +kernel
theorem dX9_setInk_21 : decode cX9_setInk 21 = .ok (.goto 16, 3) := by decide +kernel
theorem dX9_setInk_24 : decode cX9_setInk 24 = .ok (.aload_n 0, 1) := by decide +kernel
theorem dX9_setInk_25 : decode cX9_setInk 25 = .ok (.getfield 15, 3) := by decide +kernel
theorem dX9_setInk_28 : decode cX9_setInk 28 = .ok (.iload_n 1, 1) := by decide +kernel
theorem dX9_setInk_29 : decode cX9_setInk 29 = .ok (.invokestatic 44, 3) := by decide +kernel
theorem dX9_setInk_32 : decode cX9_setInk 32 = .ok (.ldc2_w 48, 3) := by decide +kernel
theorem dX9_setInk_35 : decode cX9_setInk 35 = .ok (.lxor, 1) := by decide +kernel
theorem dX9_setInk_36 : decode cX9_setInk 36 = .ok (.land, 1) := by decide +kernel
theorem dX9_setInk_37 : decode cX9_setInk 37 = .ok (.putfield 15, 3) := by decide +kernel
theorem dX9_setInk_40 : decode cX9_setInk 40 = .ok (.return_, 1) := by decide +kernel
theorem dX9_crowd_0 : decode cX9_crowd 0 = .ok (.iconst 0, 1) := by decide +kernel
theorem dX9_crowd_1 : decode cX9_crowd 1 = .ok (.istore_n 2, 1) := by decide +kernel
theorem dX9_crowd_2 : decode cX9_crowd 2 = .ok (.iconst 0, 1) := by decide +kernel
theorem dX9_crowd_3 : decode cX9_crowd 3 = .ok (.istore_n 3, 1) := by decide +kernel
theorem dX9_crowd_4 : decode cX9_crowd 4 = .ok (.iload_n 3, 1) := by decide +kernel
theorem dX9_crowd_5 : decode cX9_crowd 5 = .ok (.bipush 6, 2) := by decide +kernel
theorem dX9_crowd_7 : decode cX9_crowd 7 = .ok (.if_icmp .ge 27, 3) := by decide +kernel
theorem dX9_crowd_10 : decode cX9_crowd 10 = .ok (.iload_n 1, 1) := by decide +kernel
theorem dX9_crowd_11 : decode cX9_crowd 11 = .ok (.iconst (-1), 1) := by decide +kernel
theorem dX9_crowd_12 : decode cX9_crowd 12 = .ok (.if_icmp .eq 16, 3) := by decide +kernel
theorem dX9_crowd_15 : decode cX9_crowd 15 = .ok (.aload_n 0, 1) := by decide +kernel
theorem dX9_crowd_16 : decode cX9_crowd 16 = .ok (.getfield 26, 3) := by decide +kernel
theorem dX9_crowd_19 : decode cX9_crowd 19 = .ok (.iload_n 3, 1) := by decide +kernel
theorem dX9_crowd_20 : decode cX9_crowd 20 = .ok (.iaload, 1) := by decide +kernel
theorem dX9_crowd_21 : decode cX9_crowd 21 = .ok (.iload_n 1, 1) := by decide +kernel
theorem dX9_crowd_22 : decode cX9_crowd 22 = .ok (.if_icmp .ne 6, 3) := by decide +kernel
theorem dX9_crowd_25 : decode cX9_crowd 25 = .ok (.iinc 2 1, 3) := by decide +kernel
theorem dX9_crowd_28 : decode cX9_crowd 28 = .ok (.iinc 3 1, 3) := by decide +kernel
theorem dX9_crowd_31 : decode cX9_crowd 31 = .ok (.goto (-27), 3) := by decide +kernel
theorem dX9_crowd_34 : decode cX9_crowd 34 = .ok (.iload_n 2, 1) := by decide +kernel
theorem dX9_crowd_35 : decode cX9_crowd 35 = .ok (.ireturn, 1) := by decide +kernel
theorem dX9_others_0 : decode cX9_others 0 = .ok (.aload_n 0, 1) := by decide +kernel
theorem dX9_others_1 : decode cX9_others 1 = .ok (.aload_n 0, 1) := by decide +kernel
theorem dX9_others_2 : decode cX9_others 2 = .ok (.getfield 26, 3) := by decide +kernel
theorem dX9_others_5 : decode cX9_others 5 = .ok (.iload_n 1, 1) := by decide +kernel
theorem dX9_others_6 : decode cX9_others 6 = .ok (.iaload, 1) := by decide +kernel
theorem dX9_others_7 : decode cX9_others 7 = .ok (.invokevirtual 50, 3) := by decide +kernel
theorem dX9_others_10 : decode cX9_others 10 = .ok (.iconst 1, 1) := by decide +kernel
theorem dX9_others_11 : decode cX9_others 11 = .ok (.isub, 1) := by decide +kernel
theorem dX9_others_12 : decode cX9_others 12 = .ok (.ireturn, 1) := by decide +kernel
theorem dX9_crowdedPlace_0 : decode cX9_crowdedPlace 0 = .ok (.iconst (-1), 1) := by decide +kernel
theorem dX9_crowdedPlace_1 : decode cX9_crowdedPlace 1 = .ok (.istore_n 1, 1) := by decide +kernel
theorem dX9_crowdedPlace_2 : decode cX9_crowdedPlace 2 = .ok (.iconst 0, 1) := by decide +kernel
theorem dX9_crowdedPlace_3 : decode cX9_crowdedPlace 3 = .ok (.istore_n 2, 1) := by decide +kernel
theorem dX9_crowdedPlace_4 : decode cX9_crowdedPlace 4 = .ok (.iconst 0, 1) := by decide +kernel
theorem dX9_crowdedPlace_5 : decode cX9_crowdedPlace 5 = .ok (.istore_n 3, 1) := by decide +kernel
theorem dX9_crowdedPlace_6 : decode cX9_crowdedPlace 6 = .ok (.iload_n 3, 1) := by decide +kernel
theorem dX9_crowdedPlace_7 : decode cX9_crowdedPlace 7 = .ok (.bipush 6, 2) := by decide +kernel
theorem dX9_crowdedPlace_9 : decode cX9_crowdedPlace 9 = .ok (.if_icmp .ge 58, 3) := by decide +kernel
theorem dX9_crowdedPlace_12 : decode cX9_crowdedPlace 12 = .ok (.aload_n 0, 1) := by decide +kernel
theorem dX9_crowdedPlace_13 : decode cX9_crowdedPlace 13 = .ok (.aload_n 0, 1) := by decide +kernel
theorem dX9_crowdedPlace_14 : decode cX9_crowdedPlace 14 = .ok (.getfield 26, 3) := by decide +kernel
theorem dX9_crowdedPlace_17 : decode cX9_crowdedPlace 17 = .ok (.iload_n 3, 1) := by decide +kernel
theorem dX9_crowdedPlace_18 : decode cX9_crowdedPlace 18 = .ok (.iaload, 1) := by decide +kernel
theorem dX9_crowdedPlace_19 : decode cX9_crowdedPlace 19 = .ok (.invokevirtual 50, 3) := by decide +kernel
theorem dX9_crowdedPlace_22 : decode cX9_crowdedPlace 22 = .ok (.istore 4, 2) := by decide +kernel
theorem dX9_crowdedPlace_24 : decode cX9_crowdedPlace 24 = .ok (.iload 4, 2) := by decide +kernel
theorem dX9_crowdedPlace_26 : decode cX9_crowdedPlace 26 = .ok (.iload_n 2, 1) := by decide +kernel
theorem dX9_crowdedPlace_27 : decode cX9_crowdedPlace 27 = .ok (.if_icmp .gt 24, 3) := by decide +kernel
theorem dX9_crowdedPlace_30 : decode cX9_crowdedPlace 30 = .ok (.iload 4, 2) := by decide +kernel
theorem dX9_crowdedPlace_32 : decode cX9_crowdedPlace 32 = .ok (.ifCond .le 29, 3) := by decide +kernel
theorem dX9_crowdedPlace_35 : decode cX9_crowdedPlace 35 = .ok (.iload 4, 2) := by decide +kernel
theorem dX9_crowdedPlace_37 : decode cX9_crowdedPlace 37 = .ok (.iload_n 2, 1) := by decide +kernel
theorem dX9_crowdedPlace_38 : decode cX9_crowdedPlace 38 = .ok (.if_icmp .ne 23, 3) := by decide +kernel
theorem dX9_crowdedPlace_41 : decode cX9_crowdedPlace 41 = .ok (.aload_n 0, 1) := by decide +kernel
theorem dX9_crowdedPlace_42 : decode cX9_crowdedPlace 42 = .ok (.getfield 26, 3) := by decide +kernel
theorem dX9_crowdedPlace_45 : decode cX9_crowdedPlace 45 = .ok (.iload_n 3, 1) := by decide +kernel
theorem dX9_crowdedPlace_46 : decode cX9_crowdedPlace 46 = .ok (.iaload, 1) := by decide +kernel
theorem dX9_crowdedPlace_47 : decode cX9_crowdedPlace 47 = .ok (.iload_n 1, 1) := by decide +kernel
theorem dX9_crowdedPlace_48 : decode cX9_crowdedPlace 48 = .ok (.if_icmp .ge 13, 3) := by decide +kernel
theorem dX9_crowdedPlace_51 : decode cX9_crowdedPlace 51 = .ok (.iload 4, 2) := by decide +kernel
theorem dX9_crowdedPlace_53 : decode cX9_crowdedPlace 53 = .ok (.istore_n 2, 1) := by decide +kernel
theorem dX9_crowdedPlace_54 : decode cX9_crowdedPlace 54 = .ok (.aload_n 0, 1) := by decide +kernel
theorem dX9_crowdedPlace_55 : decode cX9_crowdedPlace 55 = .ok (.getfield 26, 3) := by decide +kernel
theorem dX9_crowdedPlace_58 : decode cX9_crowdedPlace 58 = .ok (.iload_n 3, 1) := by decide +kernel
theorem dX9_crowdedPlace_59 : decode cX9_crowdedPlace 59 = .ok (.iaload, 1) := by decide +kernel
theorem dX9_crowdedPlace_60 : decode cX9_crowdedPlace 60 = .ok (.istore_n 1, 1) := by decide +kernel
theorem dX9_crowdedPlace_61 : decode cX9_crowdedPlace 61 = .ok (.iinc 3 1, 3) := by decide +kernel
theorem dX9_crowdedPlace_64 : decode cX9_crowdedPlace 64 = .ok (.goto (-58), 3) := by decide +kernel
theorem dX9_crowdedPlace_67 : decode cX9_crowdedPlace 67 = .ok (.iload_n 1, 1) := by decide +kernel
theorem dX9_crowdedPlace_68 : decode cX9_crowdedPlace 68 = .ok (.ireturn, 1) := by decide +kernel
theorem dX9_thickestPlace_0 : decode cX9_thickestPlace 0 = .ok (.iconst (-1), 1) := by decide +kernel
theorem dX9_thickestPlace_1 : decode cX9_thickestPlace 1 = .ok (.istore_n 1, 1) := by decide +kernel
theorem dX9_thickestPlace_2 : decode cX9_thickestPlace 2 = .ok (.iconst 0, 1) := by decide +kernel
theorem dX9_thickestPlace_3 : decode cX9_thickestPlace 3 = .ok (.istore_n 2, 1) := by decide +kernel
theorem dX9_thickestPlace_4 : decode cX9_thickestPlace 4 = .ok (.iconst 0, 1) := by decide +kernel
theorem dX9_thickestPlace_5 : decode cX9_thickestPlace 5 = .ok (.istore_n 3, 1) := by decide +kernel
theorem dX9_thickestPlace_6 : decode cX9_thickestPlace 6 = .ok (.iload_n 3, 1) := by decide +kernel
theorem dX9_thickestPlace_7 : decode cX9_thickestPlace 7 = .ok (.bipush 48, 2) := by decide +kernel
theorem dX9_thickestPlace_9 : decode cX9_thickestPlace 9 = .ok (.if_icmp .ge 28, 3) := by decide +kernel
theorem dX9_thickestPlace_12 : decode cX9_thickestPlace 12 = .ok (.aload_n 0, 1) := by decide +kernel
theorem dX9_thickestPlace_13 : decode cX9_thickestPlace 13 = .ok (.getfield 22, 3) := by decide +kernel
theorem dX9_thickestPlace_16 : decode cX9_thickestPlace 16 = .ok (.iload_n 3, 1) := by decide +kernel
theorem dX9_thickestPlace_17 : decode cX9_thickestPlace 17 = .ok (.iaload, 1) := by decide +kernel
theorem dX9_thickestPlace_18 : decode cX9_thickestPlace 18 = .ok (.iload_n 2, 1) := by decide +kernel
theorem dX9_thickestPlace_19 : decode cX9_thickestPlace 19 = .ok (.if_icmp .le 12, 3) := by decide +kernel
theorem dX9_thickestPlace_22 : decode cX9_thickestPlace 22 = .ok (.aload_n 0, 1) := by decide +kernel
theorem dX9_thickestPlace_23 : decode cX9_thickestPlace 23 = .ok (.getfield 22, 3) := by decide +kernel
theorem dX9_thickestPlace_26 : decode cX9_thickestPlace 26 = .ok (.iload_n 3, 1) := by decide +kernel
theorem dX9_thickestPlace_27 : decode cX9_thickestPlace 27 = .ok (.iaload, 1) := by decide +kernel
theorem dX9_thickestPlace_28 : decode cX9_thickestPlace 28 = .ok (.istore_n 2, 1) := by decide +kernel
theorem dX9_thickestPlace_29 : decode cX9_thickestPlace 29 = .ok (.iload_n 3, 1) := by decide +kernel
theorem dX9_thickestPlace_30 : decode cX9_thickestPlace 30 = .ok (.istore_n 1, 1) := by decide +kernel
theorem dX9_thickestPlace_31 : decode cX9_thickestPlace 31 = .ok (.iinc 3 1, 3) := by decide +kernel
theorem dX9_thickestPlace_34 : decode cX9_thickestPlace 34 = .ok (.goto (-28), 3) := by decide +kernel
theorem dX9_thickestPlace_37 : decode cX9_thickestPlace 37 = .ok (.iload_n 1, 1) := by decide +kernel
theorem dX9_thickestPlace_38 : decode cX9_thickestPlace 38 = .ok (.ireturn, 1) := by decide +kernel
theorem dX9_sentBits_0 : decode cX9_sentBits 0 = .ok (.iconst 0, 1) := by decide +kernel
theorem dX9_sentBits_1 : decode cX9_sentBits 1 = .ok (.istore_n 1, 1) := by decide +kernel
theorem dX9_sentBits_2 : decode cX9_sentBits 2 = .ok (.iconst 0, 1) := by decide +kernel
theorem dX9_sentBits_3 : decode cX9_sentBits 3 = .ok (.istore_n 2, 1) := by decide +kernel
theorem dX9_sentBits_4 : decode cX9_sentBits 4 = .ok (.iload_n 2, 1) := by decide +kernel
theorem dX9_sentBits_5 : decode cX9_sentBits 5 = .ok (.bipush 6, 2) := by decide +kernel
theorem dX9_sentBits_7 : decode cX9_sentBits 7 = .ok (.if_icmp .ge 25, 3) := by decide +kernel
theorem dX9_sentBits_10 : decode cX9_sentBits 10 = .ok (.aload_n 0, 1) := by decide +kernel
theorem dX9_sentBits_11 : decode cX9_sentBits 11 = .ok (.getfield 29, 3) := by decide +kernel
theorem dX9_sentBits_14 : decode cX9_sentBits 14 = .ok (.iload_n 2, 1) := by decide +kernel
theorem dX9_sentBits_15 : decode cX9_sentBits 15 = .ok (.iaload, 1) := by decide +kernel
theorem dX9_sentBits_16 : decode cX9_sentBits 16 = .ok (.iconst (-1), 1) := by decide +kernel
theorem dX9_sentBits_17 : decode cX9_sentBits 17 = .ok (.if_icmp .eq 9, 3) := by decide +kernel
theorem dX9_sentBits_20 : decode cX9_sentBits 20 = .ok (.iload_n 1, 1) := by decide +kernel
theorem dX9_sentBits_21 : decode cX9_sentBits 21 = .ok (.iconst 1, 1) := by decide +kernel
theorem dX9_sentBits_22 : decode cX9_sentBits 22 = .ok (.iload_n 2, 1) := by decide +kernel
theorem dX9_sentBits_23 : decode cX9_sentBits 23 = .ok (.ishl, 1) := by decide +kernel
theorem dX9_sentBits_24 : decode cX9_sentBits 24 = .ok (.ior, 1) := by decide +kernel
theorem dX9_sentBits_25 : decode cX9_sentBits 25 = .ok (.istore_n 1, 1) := by decide +kernel
theorem dX9_sentBits_26 : decode cX9_sentBits 26 = .ok (.iinc 2 1, 3) := by decide +kernel
theorem dX9_sentBits_29 : decode cX9_sentBits 29 = .ok (.goto (-25), 3) := by decide +kernel
theorem dX9_sentBits_32 : decode cX9_sentBits 32 = .ok (.iload_n 1, 1) := by decide +kernel
theorem dX9_sentBits_33 : decode cX9_sentBits 33 = .ok (.ireturn, 1) := by decide +kernel
theorem dX9_metByAll_0 : decode cX9_metByAll 0 = .ok (.iconst 0, 1) := by decide +kernel
theorem dX9_metByAll_1 : decode cX9_metByAll 1 = .ok (.istore_n 1, 1) := by decide +kernel
theorem dX9_metByAll_2 : decode cX9_metByAll 2 = .ok (.iconst 0, 1) := by decide +kernel
theorem dX9_metByAll_3 : decode cX9_metByAll 3 = .ok (.istore_n 2, 1) := by decide +kernel
theorem dX9_metByAll_4 : decode cX9_metByAll 4 = .ok (.iload_n 2, 1) := by decide +kernel
theorem dX9_metByAll_5 : decode cX9_metByAll 5 = .ok (.bipush 6, 2) := by decide +kernel
theorem dX9_metByAll_7 : decode cX9_metByAll 7 = .ok (.if_icmp .ge 18, 3) := by decide +kernel
theorem dX9_metByAll_10 : decode cX9_metByAll 10 = .ok (.iload_n 1, 1) := by decide +kernel
theorem dX9_metByAll_11 : decode cX9_metByAll 11 = .ok (.aload_n 0, 1) := by decide +kernel
theorem dX9_metByAll_12 : decode cX9_metByAll 12 = .ok (.getfield 32, 3) := by decide +kernel
theorem dX9_metByAll_15 : decode cX9_metByAll 15 = .ok (.iload_n 2, 1) := by decide +kernel
theorem dX9_metByAll_16 : decode cX9_metByAll 16 = .ok (.iaload, 1) := by decide +kernel
theorem dX9_metByAll_17 : decode cX9_metByAll 17 = .ok (.iadd, 1) := by decide +kernel
theorem dX9_metByAll_18 : decode cX9_metByAll 18 = .ok (.istore_n 1, 1) := by decide +kernel
theorem dX9_metByAll_19 : decode cX9_metByAll 19 = .ok (.iinc 2 1, 3) := by decide +kernel
theorem dX9_metByAll_22 : decode cX9_metByAll 22 = .ok (.goto (-18), 3) := by decide +kernel
theorem dX9_metByAll_25 : decode cX9_metByAll 25 = .ok (.iload_n 1, 1) := by decide +kernel
theorem dX9_metByAll_26 : decode cX9_metByAll 26 = .ok (.ireturn, 1) := by decide +kernel
theorem dX10_init_0 : decode cX10_init 0 = .ok (.aload_n 0, 1) := by decide +kernel
theorem dX10_init_1 : decode cX10_init 1 = .ok (.invokespecial 1, 3) := by decide +kernel
theorem dX10_init_4 : decode cX10_init 4 = .ok (.aload_n 0, 1) := by decide +kernel
theorem dX10_init_5 : decode cX10_init 5 = .ok (.sipush 700, 3) := by decide +kernel
theorem dX10_init_8 : decode cX10_init 8 = .ok (.newarray .int, 2) := by decide +kernel
theorem dX10_init_10 : decode cX10_init 10 = .ok (.putfield 9, 3) := by decide +kernel
theorem dX10_init_13 : decode cX10_init 13 = .ok (.aload_n 0, 1) := by decide +kernel
theorem dX10_init_14 : decode cX10_init 14 = .ok (.iconst 0, 1) := by decide +kernel
theorem dX10_init_15 : decode cX10_init 15 = .ok (.putfield 13, 3) := by decide +kernel
theorem dX10_init_18 : decode cX10_init 18 = .ok (.aload_n 0, 1) := by decide +kernel
theorem dX10_init_19 : decode cX10_init 19 = .ok (.iconst (-1), 1) := by decide +kernel
theorem dX10_init_20 : decode cX10_init 20 = .ok (.putfield 17, 3) := by decide +kernel
theorem dX10_init_23 : decode cX10_init 23 = .ok (.aload_n 0, 1) := by decide +kernel
theorem dX10_init_24 : decode cX10_init 24 = .ok (.iconst 3, 1) := by decide +kernel
theorem dX10_init_25 : decode cX10_init 25 = .ok (.newarray .int, 2) := by decide +kernel
theorem dX10_init_27 : decode cX10_init 27 = .ok (.putfield 20, 3) := by decide +kernel
theorem dX10_init_30 : decode cX10_init 30 = .ok (.aload_n 0, 1) := by decide +kernel
theorem dX10_init_31 : decode cX10_init 31 = .ok (.new 23, 3) := by decide +kernel
theorem dX10_init_34 : decode cX10_init 34 = .ok (.dup, 1) := by decide +kernel
theorem dX10_init_35 : decode cX10_init 35 = .ok (.invokespecial 25, 3) := by decide +kernel
theorem dX10_init_38 : decode cX10_init 38 = .ok (.putfield 26, 3) := by decide +kernel
theorem dX10_init_41 : decode cX10_init 41 = .ok (.aload_n 0, 1) := by decide +kernel
theorem dX10_init_42 : decode cX10_init 42 = .ok (.new 23, 3) := by decide +kernel
theorem dX10_init_45 : decode cX10_init 45 = .ok (.dup, 1) := by decide +kernel
theorem dX10_init_46 : decode cX10_init 46 = .ok (.invokespecial 25, 3) := by decide +kernel
theorem dX10_init_49 : decode cX10_init 49 = .ok (.putfield 30, 3) := by decide +kernel
theorem dX10_init_52 : decode cX10_init 52 = .ok (.aload_n 0, 1) := by decide +kernel
theorem dX10_init_53 : decode cX10_init 53 = .ok (.new 33, 3) := by decide +kernel
theorem dX10_init_56 : decode cX10_init 56 = .ok (.dup, 1) := by decide +kernel
theorem dX10_init_57 : decode cX10_init 57 = .ok (.aload_n 0, 1) := by decide +kernel
theorem dX10_init_58 : decode cX10_init 58 = .ok (.getfield 30, 3) := by decide +kernel
theorem dX10_init_61 : decode cX10_init 61 = .ok (.invokespecial 35, 3) := by decide +kernel
theorem dX10_init_64 : decode cX10_init 64 = .ok (.putfield 38, 3) := by decide +kernel
theorem dX10_init_67 : decode cX10_init 67 = .ok (.aload_n 0, 1) := by decide +kernel
theorem dX10_init_68 : decode cX10_init 68 = .ok (.new 42, 3) := by decide +kernel
theorem dX10_init_71 : decode cX10_init 71 = .ok (.dup, 1) := by decide +kernel
theorem dX10_init_72 : decode cX10_init 72 = .ok (.invokespecial 44, 3) := by decide +kernel
theorem dX10_init_75 : decode cX10_init 75 = .ok (.putfield 45, 3) := by decide +kernel
theorem dX10_init_78 : decode cX10_init 78 = .ok (.aload_n 0, 1) := by decide +kernel
theorem dX10_init_79 : decode cX10_init 79 = .ok (.new 49, 3) := by decide +kernel
theorem dX10_init_82 : decode cX10_init 82 = .ok (.dup, 1) := by decide +kernel
theorem dX10_init_83 : decode cX10_init 83 = .ok (.invokespecial 51, 3) := by decide +kernel
theorem dX10_init_86 : decode cX10_init 86 = .ok (.putfield 52, 3) := by decide +kernel
theorem dX10_init_89 : decode cX10_init 89 = .ok (.aload_n 0, 1) := by decide +kernel
theorem dX10_init_90 : decode cX10_init 90 = .ok (.new 56, 3) := by decide +kernel
theorem dX10_init_93 : decode cX10_init 93 = .ok (.dup, 1) := by decide +kernel
theorem dX10_init_94 : decode cX10_init 94 = .ok (.invokespecial 58, 3) := by decide +kernel
theorem dX10_init_97 : decode cX10_init 97 = .ok (.putfield 59, 3) := by decide +kernel
theorem dX10_init_100 : decode cX10_init 100 = .ok (.aload_n 0, 1) := by decide +kernel
theorem dX10_init_101 : decode cX10_init 101 = .ok (.iconst 0, 1) := by decide +kernel
theorem dX10_init_102 : decode cX10_init 102 = .ok (.putfield 63, 3) := by decide +kernel
theorem dX10_init_105 : decode cX10_init 105 = .ok (.aload_n 0, 1) := by decide +kernel
theorem dX10_init_106 : decode cX10_init 106 = .ok (.new 42, 3) := by decide +kernel
theorem dX10_init_109 : decode cX10_init 109 = .ok (.dup, 1) := by decide +kernel
theorem dX10_init_110 : decode cX10_init 110 = .ok (.invokespecial 44, 3) := by decide +kernel
theorem dX10_init_113 : decode cX10_init 113 = .ok (.putfield 67, 3) := by decide +kernel
theorem dX10_init_116 : decode cX10_init 116 = .ok (.aload_n 0, 1) := by decide +kernel
theorem dX10_init_117 : decode cX10_init 117 = .ok (.new 49, 3) := by decide +kernel
theorem dX10_init_120 : decode cX10_init 120 = .ok (.dup, 1) := by decide +kernel
theorem dX10_init_121 : decode cX10_init 121 = .ok (.invokespecial 51, 3) := by decide +kernel
theorem dX10_init_124 : decode cX10_init 124 = .ok (.putfield 70, 3) := by decide +kernel
theorem dX10_init_127 : decode cX10_init 127 = .ok (.aload_n 0, 1) := by decide +kernel
theorem dX10_init_128 : decode cX10_init 128 = .ok (.new 56, 3) := by decide +kernel
theorem dX10_init_131 : decode cX10_init 131 = .ok (.dup, 1) := by decide +kernel
theorem dX10_init_132 : decode cX10_init 132 = .ok (.invokespecial 58, 3) := by decide +kernel
theorem dX10_init_135 : decode cX10_init 135 = .ok (.putfield 73, 3) := by decide +kernel
theorem dX10_init_138 : decode cX10_init 138 = .ok (.aload_n 0, 1) := by decide +kernel
theorem dX10_init_139 : decode cX10_init 139 = .ok (.new 76, 3) := by decide +kernel
theorem dX10_init_142 : decode cX10_init 142 = .ok (.dup, 1) := by decide +kernel
theorem dX10_init_143 : decode cX10_init 143 = .ok (.aload_n 0, 1) := by decide +kernel
theorem dX10_init_144 : decode cX10_init 144 = .ok (.getfield 26, 3) := by decide +kernel
theorem dX10_init_147 : decode cX10_init 147 = .ok (.invokespecial 78, 3) := by decide +kernel
theorem dX10_init_150 : decode cX10_init 150 = .ok (.putfield 79, 3) := by decide +kernel
theorem dX10_init_153 : decode cX10_init 153 = .ok (.aload_n 0, 1) := by decide +kernel
theorem dX10_init_154 : decode cX10_init 154 = .ok (.new 83, 3) := by decide +kernel
theorem dX10_init_157 : decode cX10_init 157 = .ok (.dup, 1) := by decide +kernel
theorem dX10_init_158 : decode cX10_init 158 = .ok (.invokespecial 85, 3) := by decide +kernel
theorem dX10_init_161 : decode cX10_init 161 = .ok (.putfield 86, 3) := by decide +kernel
theorem dX10_init_164 : decode cX10_init 164 = .ok (.aload_n 0, 1) := by decide +kernel
theorem dX10_init_165 : decode cX10_init 165 = .ok (.new 90, 3) := by decide +kernel
theorem dX10_init_168 : decode cX10_init 168 = .ok (.dup, 1) := by decide +kernel
theorem dX10_init_169 : decode cX10_init 169 = .ok (.invokespecial 92, 3) := by decide +kernel
theorem dX10_init_172 : decode cX10_init 172 = .ok (.putfield 93, 3) := by decide +kernel
theorem dX10_init_175 : decode cX10_init 175 = .ok (.aload_n 0, 1) := by decide +kernel
theorem dX10_init_176 : decode cX10_init 176 = .ok (.new 97, 3) := by decide +kernel
theorem dX10_init_179 : decode cX10_init 179 = .ok (.dup, 1) := by decide +kernel
theorem dX10_init_180 : decode cX10_init 180 = .ok (.invokespecial 99, 3) := by decide +kernel
theorem dX10_init_183 : decode cX10_init 183 = .ok (.putfield 100, 3) := by decide +kernel
theorem dX10_init_186 : decode cX10_init 186 = .ok (.aload_n 0, 1) := by decide +kernel
theorem dX10_init_187 : decode cX10_init 187 = .ok (.bipush 6, 2) := by decide +kernel
theorem dX10_init_189 : decode cX10_init 189 = .ok (.newarray .long, 2) := by decide +kernel
theorem dX10_init_191 : decode cX10_init 191 = .ok (.putfield 104, 3) := by decide +kernel
theorem dX10_init_194 : decode cX10_init 194 = .ok (.aload_n 0, 1) := by decide +kernel
theorem dX10_init_195 : decode cX10_init 195 = .ok (.iconst 2, 1) := by decide +kernel
theorem dX10_init_196 : decode cX10_init 196 = .ok (.iconst 4, 1) := by decide +kernel
theorem dX10_init_197 : decode cX10_init 197 = .ok (.multianewarray 108 2, 4) := by decide +kernel
theorem dX10_init_201 : decode cX10_init 201 = .ok (.putfield 110, 3) := by decide +kernel
theorem dX10_init_204 : decode cX10_init 204 = .ok (.return_, 1) := by decide +kernel
theorem dX10_feed_0 : decode cX10_feed 0 = .ok (.aload_n 0, 1) := by decide +kernel
theorem dX10_feed_1 : decode cX10_feed 1 = .ok (.getfield 13, 3) := by decide +kernel
theorem dX10_feed_4 : decode cX10_feed 4 = .ok (.bipush 20, 2) := by decide +kernel
theorem dX10_feed_6 : decode cX10_feed 6 = .ok (.iadd, 1) := by decide +kernel
theorem dX10_feed_7 : decode cX10_feed 7 = .ok (.sipush 700, 3) := by decide +kernel
theorem dX10_feed_10 : decode cX10_feed 10 = .ok (.if_icmp .le 5, 3) := by decide +kernel
theorem dX10_feed_13 : decode cX10_feed 13 = .ok (.iconst (-1), 1) := by decide +kernel
theorem dX10_feed_14 : decode cX10_feed 14 = .ok (.ireturn, 1) := by decide +kernel
theorem dX10_feed_15 : decode cX10_feed 15 = .ok (.aload_n 0, 1) := by decide +kernel
theorem dX10_feed_16 : decode cX10_feed 16 = .ok (.iload_n 1, 1) := by decide +kernel
theorem dX10_feed_17 : decode cX10_feed 17 = .ok (.invokevirtual 113, 3) := by decide +kernel
theorem dX10_feed_20 : decode cX10_feed 20 = .ok (.aload_n 0, 1) := by decide +kernel
theorem dX10_feed_21 : decode cX10_feed 21 = .ok (.iload_n 2, 1) := by decide +kernel
theorem dX10_feed_22 : decode cX10_feed 22 = .ok (.invokevirtual 113, 3) := by decide +kernel
theorem dX10_feed_25 : decode cX10_feed 25 = .ok (.aload_n 0, 1) := by decide +kernel
theorem dX10_feed_26 : decode cX10_feed 26 = .ok (.iload_n 3, 1) := by decide +kernel
theorem dX10_feed_27 : decode cX10_feed 27 = .ok (.invokevirtual 113, 3) := by decide +kernel
theorem dX10_feed_30 : decode cX10_feed 30 = .ok (.aload_n 0, 1) := by decide +kernel
theorem dX10_feed_31 : decode cX10_feed 31 = .ok (.iload 4, 2) := by decide +kernel
theorem dX10_feed_33 : decode cX10_feed 33 = .ok (.invokevirtual 113, 3) := by decide +kernel
theorem dX10_feed_36 : decode cX10_feed 36 = .ok (.aload_n 0, 1) := by decide +kernel
theorem dX10_feed_37 : decode cX10_feed 37 = .ok (.iload 5, 2) := by decide +kernel
theorem dX10_feed_39 : decode cX10_feed 39 = .ok (.invokevirtual 113, 3) := by decide +kernel
theorem dX10_feed_42 : decode cX10_feed 42 = .ok (.aload_n 0, 1) := by decide +kernel
theorem dX10_feed_43 : decode cX10_feed 43 = .ok (.getfield 13, 3) := by decide +kernel
theorem dX10_feed_46 : decode cX10_feed 46 = .ok (.ireturn, 1) := by decide +kernel
theorem dX10_putBytes_0 : decode cX10_putBytes 0 = .ok (.bipush 24, 2) := by decide +kernel
theorem dX10_putBytes_2 : decode cX10_putBytes 2 = .ok (.istore_n 2, 1) := by decide +kernel
theorem dX10_putBytes_3 : decode cX10_putBytes 3 = .ok (.iload_n 2, 1) := by decide +kernel
theorem dX10_putBytes_4 : decode cX10_putBytes 4 = .ok (.ifCond .lt 45, 3) := by decide +kernel
theorem dX10_putBytes_7 : decode cX10_putBytes 7 = .ok (.aload_n 0, 1) := by decide +kernel
theorem dX10_putBytes_8 : decode cX10_putBytes 8 = .ok (.getfield 13, 3) := by decide +kernel
theorem dX10_putBytes_11 : decode cX10_putBytes 11 = .ok (.sipush 700, 3) := by decide +kernel
theorem dX10_putBytes_14 : decode cX10_putBytes 14 = .ok (.if_icmp .ge 29, 3) := by decide +kernel
theorem dX10_putBytes_17 : decode cX10_putBytes 17 = .ok (.aload_n 0, 1) := by decide +kernel
theorem dX10_putBytes_18 : decode cX10_putBytes 18 = .ok (.getfield 9, 3) := by decide +kernel
theorem dX10_putBytes_21 : decode cX10_putBytes 21 = .ok (.aload_n 0, 1) := by decide +kernel
theorem dX10_putBytes_22 : decode cX10_putBytes 22 = .ok (.getfield 13, 3) := by decide +kernel
theorem dX10_putBytes_25 : decode cX10_putBytes 25 = .ok (.iload_n 1, 1) := by decide +kernel
theorem dX10_putBytes_26 : decode cX10_putBytes 26 = .ok (.iload_n 2, 1) := by decide +kernel
theorem dX10_putBytes_27 : decode cX10_putBytes 27 = .ok (.iushr, 1) := by decide +kernel
theorem dX10_putBytes_28 : decode cX10_putBytes 28 = .ok (.sipush 255, 3) := by decide +kernel
theorem dX10_putBytes_31 : decode cX10_putBytes 31 = .ok (.iand, 1) := by decide +kernel
theorem dX10_putBytes_32 : decode cX10_putBytes 32 = .ok (.iastore, 1) := by decide +kernel
theorem dX10_putBytes_33 : decode cX10_putBytes 33 = .ok (.aload_n 0, 1) := by decide +kernel
theorem dX10_putBytes_34 : decode cX10_putBytes 34 = .ok (.dup, 1) := by decide +kernel
theorem dX10_putBytes_35 : decode cX10_putBytes 35 = .ok (.getfield 13, 3) := by decide +kernel
theorem dX10_putBytes_38 : decode cX10_putBytes 38 = .ok (.iconst 1, 1) := by decide +kernel
theorem dX10_putBytes_39 : decode cX10_putBytes 39 = .ok (.iadd, 1) := by decide +kernel
theorem dX10_putBytes_40 : decode cX10_putBytes 40 = .ok (.putfield 13, 3) := by decide +kernel
theorem dX10_putBytes_43 : decode cX10_putBytes 43 = .ok (.iinc 2 (-8), 3) := by decide +kernel
theorem dX10_putBytes_46 : decode cX10_putBytes 46 = .ok (.goto (-43), 3) := by decide +kernel
theorem dX10_putBytes_49 : decode cX10_putBytes 49 = .ok (.return_, 1) := by decide +kernel
theorem dX10_cellar_0 : decode cX10_cellar 0 = .ok (.iload_n 1, 1) := by decide +kernel
theorem dX10_cellar_1 : decode cX10_cellar 1 = .ok (.ifCond .lt 11, 3) := by decide +kernel
theorem dX10_cellar_4 : decode cX10_cellar 4 = .ok (.iload_n 1, 1) := by decide +kernel
theorem dX10_cellar_5 : decode cX10_cellar 5 = .ok (.aload_n 0, 1) := by decide +kernel
theorem dX10_cellar_6 : decode cX10_cellar 6 = .ok (.getfield 13, 3) := by decide +kernel
theorem dX10_cellar_9 : decode cX10_cellar 9 = .ok (.if_icmp .le 13, 3) := by decide +kernel
theorem dX10_cellar_12 : decode cX10_cellar 12 = .ok (.new 117, 3) := by decide +kernel
theorem dX10_cellar_15 : decode cX10_cellar 15 = .ok (.dup, 1) := by decide +kernel
theorem dX10_cellar_16 : decode cX10_cellar 16 = .ok (.ldc 119, 2) := by decide +kernel
theorem dX10_cellar_18 : decode cX10_cellar 18 = .ok (.invokespecial 121, 3) := by decide +kernel
theorem dX10_cellar_21 : decode cX10_cellar 21 = .ok (.athrow, 1) := by decide +kernel
theorem dX10_cellar_22 : decode cX10_cellar 22 = .ok (.aload_n 0, 1) := by decide +kernel
theorem dX10_cellar_23 : decode cX10_cellar 23 = .ok (.getfield 38, 3) := by decide +kernel
theorem dX10_cellar_26 : decode cX10_cellar 26 = .ok (.aload_n 0, 1) := by decide +kernel
theorem dX10_cellar_27 : decode cX10_cellar 27 = .ok (.getfield 9, 3) := by decide +kernel
theorem dX10_cellar_30 : decode cX10_cellar 30 = .ok (.iload_n 1, 1) := by decide +kernel
theorem dX10_cellar_31 : decode cX10_cellar 31 = .ok (.aload_n 0, 1) := by decide +kernel
theorem dX10_cellar_32 : decode cX10_cellar 32 = .ok (.getfield 30, 3) := by decide +kernel
theorem dX10_cellar_35 : decode cX10_cellar 35 = .ok (.invokevirtual 124, 3) := by decide +kernel
theorem dX10_cellar_38 : decode cX10_cellar 38 = .ok (.istore_n 2, 1) := by decide +kernel
theorem dX10_cellar_39 : decode cX10_cellar 39 = .ok (.aload_n 0, 1) := by decide +kernel
theorem dX10_cellar_40 : decode cX10_cellar 40 = .ok (.iconst 0, 1) := by decide +kernel
theorem dX10_cellar_41 : decode cX10_cellar 41 = .ok (.putfield 13, 3) := by decide +kernel
theorem dX10_cellar_44 : decode cX10_cellar 44 = .ok (.aload_n 0, 1) := by decide +kernel
theorem dX10_cellar_45 : decode cX10_cellar 45 = .ok (.aload_n 0, 1) := by decide +kernel
theorem dX10_cellar_46 : decode cX10_cellar 46 = .ok (.getfield 38, 3) := by decide +kernel
theorem dX10_cellar_49 : decode cX10_cellar 49 = .ok (.getfield 128, 3) := by decide +kernel
theorem dX10_cellar_52 : decode cX10_cellar 52 = .ok (.putfield 17, 3) := by decide +kernel
theorem dX10_cellar_55 : decode cX10_cellar 55 = .ok (.iload_n 2, 1) := by decide +kernel
theorem dX10_cellar_56 : decode cX10_cellar 56 = .ok (.ifCond .eq 15, 3) := by decide +kernel
theorem dX10_cellar_59 : decode cX10_cellar 59 = .ok (.aload_n 0, 1) := by decide +kernel
theorem dX10_cellar_60 : decode cX10_cellar 60 = .ok (.getfield 20, 3) := by decide +kernel
theorem dX10_cellar_63 : decode cX10_cellar 63 = .ok (.iconst 0, 1) := by decide +kernel
theorem dX10_cellar_64 : decode cX10_cellar 64 = .ok (.dup2, 1) := by decide +kernel
theorem dX10_cellar_65 : decode cX10_cellar 65 = .ok (.iaload, 1) := by decide +kernel
theorem dX10_cellar_66 : decode cX10_cellar 66 = .ok (.iconst 1, 1) := by decide +kernel
theorem dX10_cellar_67 : decode cX10_cellar 67 = .ok (.iadd, 1) := by decide +kernel
theorem dX10_cellar_68 : decode cX10_cellar 68 = .ok (.iastore, 1) := by decide +kernel
theorem dX10_cellar_69 : decode cX10_cellar 69 = .ok (.iload_n 2, 1) := by decide +kernel
theorem dX10_cellar_70 : decode cX10_cellar 70 = .ok (.ireturn, 1) := by decide +kernel
theorem dX10_cellar_71 : decode cX10_cellar 71 = .ok (.aload_n 0, 1) := by decide +kernel
theorem dX10_cellar_72 : decode cX10_cellar 72 = .ok (.getfield 26, 3) := by decide +kernel
theorem dX10_cellar_75 : decode cX10_cellar 75 = .ok (.astore_n 3, 1) := by decide +kernel
theorem dX10_cellar_76 : decode cX10_cellar 76 = .ok (.aload_n 0, 1) := by decide +kernel
theorem dX10_cellar_77 : decode cX10_cellar 77 = .ok (.aload_n 0, 1) := by decide +kernel
theorem dX10_cellar_78 : decode cX10_cellar 78 = .ok (.getfield 30, 3) := by decide +kernel
theorem dX10_cellar_81 : decode cX10_cellar 81 = .ok (.putfield 26, 3) := by decide +kernel
theorem dX10_cellar_84 : decode cX10_cellar 84 = .ok (.aload_n 0, 1) := by decide +kernel
theorem dX10_cellar_85 : decode cX10_cellar 85 = .ok (.aload_n 3, 1) := by decide +kernel
theorem dX10_cellar_86 : decode cX10_cellar 86 = .ok (.putfield 30, 3) := by decide +kernel
theorem dX10_cellar_89 : decode cX10_cellar 89 = .ok (.aload_n 0, 1) := by decide +kernel
theorem dX10_cellar_90 : decode cX10_cellar 90 = .ok (.getfield 45, 3) := by decide +kernel
theorem dX10_cellar_93 : decode cX10_cellar 93 = .ok (.aload_n 0, 1) := by decide +kernel
theorem dX10_cellar_94 : decode cX10_cellar 94 = .ok (.getfield 26, 3) := by decide +kernel
theorem dX10_cellar_97 : decode cX10_cellar 97 = .ok (.getfield 129, 3) := by decide +kernel
theorem dX10_cellar_100 : decode cX10_cellar 100 = .ok (.invokevirtual 132, 3) := by decide +kernel
theorem dX10_cellar_103 : decode cX10_cellar 103 = .ok (.aload_n 0, 1) := by decide +kernel
theorem dX10_cellar_104 : decode cX10_cellar 104 = .ok (.getfield 52, 3) := by decide +kernel
theorem dX10_cellar_107 : decode cX10_cellar 107 = .ok (.invokevirtual 136, 3) := by decide +kernel
theorem dX10_cellar_110 : decode cX10_cellar 110 = .ok (.aload_n 0, 1) := by decide +kernel
theorem dX10_cellar_111 : decode cX10_cellar 111 = .ok (.getfield 59, 3) := by decide +kernel
theorem dX10_cellar_114 : decode cX10_cellar 114 = .ok (.invokevirtual 139, 3) := by decide +kernel
theorem dX10_cellar_117 : decode cX10_cellar 117 = .ok (.aload_n 0, 1) := by decide +kernel
theorem dX10_cellar_118 : decode cX10_cellar 118 = .ok (.iconst 0, 1) := by decide +kernel
theorem dX10_cellar_119 : decode cX10_cellar 119 = .ok (.putfield 63, 3) := by decide +kernel
theorem dX10_cellar_122 : decode cX10_cellar 122 = .ok (.iconst 0, 1) := by decide +kernel
theorem dX10_cellar_123 : decode cX10_cellar 123 = .ok (.ireturn, 1) := by decide +kernel
theorem dX10_fault_0 : decode cX10_fault 0 = .ok (.aload_n 0, 1) := by decide +kernel
theorem dX10_fault_1 : decode cX10_fault 1 = .ok (.getfield 17, 3) := by decide +kernel
theorem dX10_fault_4 : decode cX10_fault 4 = .ok (.ireturn, 1) := by decide +kernel
theorem dX10_count_0 : decode cX10_count 0 = .ok (.aload_n 0, 1) := by decide +kernel
theorem dX10_count_1 : decode cX10_count 1 = .ok (.iload_n 1, 1) := by decide +kernel
theorem dX10_count_2 : decode cX10_count 2 = .ok (.bipush 14, 2) := by decide +kernel
theorem dX10_count_4 : decode cX10_count 4 = .ok (.invokevirtual 140, 3) := by decide +kernel
theorem dX10_count_7 : decode cX10_count 7 = .ok (.iload_n 1, 1) := by decide +kernel
theorem dX10_count_8 : decode cX10_count 8 = .ok (.tableswitch 149 0 10 #[60, 68, 76, 84, 92, 103, 112, 120, 128, 136, 144], 60) := by decide +kernel
theorem dX10_count_68 : decode cX10_count 68 = .ok (.aload_n 0, 1) := by decide +kernel
theorem dX10_count_69 : decode cX10_count 69 = .ok (.getfield 26, 3) := by decide +kernel
theorem dX10_count_72 : decode cX10_count 72 = .ok (.getfield 144, 3) := by decide +kernel
theorem dX10_count_75 : decode cX10_count 75 = .ok (.ireturn, 1) := by decide +kernel
theorem dX10_count_76 : decode cX10_count 76 = .ok (.aload_n 0, 1) := by decide +kernel
theorem dX10_count_77 : decode cX10_count 77 = .ok (.getfield 26, 3) := by decide +kernel
theorem dX10_count_80 : decode cX10_count 80 = .ok (.getfield 147, 3) := by decide +kernel
theorem dX10_count_83 : decode cX10_count 83 = .ok (.ireturn, 1) := by decide +kernel
theorem dX10_count_84 : decode cX10_count 84 = .ok (.aload_n 0, 1) := by decide +kernel
theorem dX10_count_85 : decode cX10_count 85 = .ok (.getfield 45, 3) := by decide +kernel
theorem dX10_count_88 : decode cX10_count 88 = .ok (.getfield 150, 3) := by decide +kernel
theorem dX10_count_91 : decode cX10_count 91 = .ok (.ireturn, 1) := by decide +kernel
theorem dX10_count_92 : decode cX10_count 92 = .ok (.aload_n 0, 1) := by decide +kernel
theorem dX10_count_93 : decode cX10_count 93 = .ok (.invokevirtual 153, 3) := by decide +kernel
theorem dX10_count_96 : decode cX10_count 96 = .ok (.invokevirtual 157, 3) := by decide +kernel
theorem dX10_count_99 : decode cX10_count 99 = .ok (.ireturn, 1) := by decide +kernel
theorem dX10_count_100 : decode cX10_count 100 = .ok (.aload_n 0, 1) := by decide +kernel
theorem dX10_count_101 : decode cX10_count 101 = .ok (.getfield 45, 3) := by decide +kernel
theorem dX10_count_104 : decode cX10_count 104 = .ok (.getfield 161, 3) := by decide +kernel
theorem dX10_count_107 : decode cX10_count 107 = .ok (.invokestatic 165, 3) := by decide +kernel
theorem dX10_count_110 : decode cX10_count 110 = .ok (.ireturn, 1) := by decide +kernel
theorem dX10_count_111 : decode cX10_count 111 = .ok (.aload_n 0, 1) := by decide +kernel
theorem dX10_count_112 : decode cX10_count 112 = .ok (.aload_n 0, 1) := by decide +kernel
theorem dX10_count_113 : decode cX10_count 113 = .ok (.getfield 45, 3) := by decide +kernel
theorem dX10_count_116 : decode cX10_count 116 = .ok (.invokevirtual 171, 3) := by decide +kernel
theorem dX10_count_119 : decode cX10_count 119 = .ok (.ireturn, 1) := by decide +kernel
theorem dX10_count_120 : decode cX10_count 120 = .ok (.aload_n 0, 1) := by decide +kernel
theorem dX10_count_121 : decode cX10_count 121 = .ok (.getfield 45, 3) := by decide +kernel
theorem dX10_count_124 : decode cX10_count 124 = .ok (.invokevirtual 175, 3) := by decide +kernel
theorem dX10_count_127 : decode cX10_count 127 = .ok (.ireturn, 1) := by decide +kernel
theorem dX10_count_128 : decode cX10_count 128 = .ok (.aload_n 0, 1) := by decide +kernel
theorem dX10_count_129 : decode cX10_count 129 = .ok (.getfield 45, 3) := by decide +kernel
theorem dX10_count_132 : decode cX10_count 132 = .ok (.invokevirtual 178, 3) := by decide +kernel
theorem dX10_count_135 : decode cX10_count 135 = .ok (.ireturn, 1) := by decide +kernel
theorem dX10_count_136 : decode cX10_count 136 = .ok (.aload_n 0, 1) := by decide +kernel
theorem dX10_count_137 : decode cX10_count 137 = .ok (.getfield 52, 3) := by decide +kernel
theorem dX10_count_140 : decode cX10_count 140 = .ok (.getfield 181, 3) := by decide +kernel
theorem dX10_count_143 : decode cX10_count 143 = .ok (.ireturn, 1) := by decide +kernel
theorem dX10_count_144 : decode cX10_count 144 = .ok (.aload_n 0, 1) := by decide +kernel
theorem dX10_count_145 : decode cX10_count 145 = .ok (.getfield 59, 3) := by decide +kernel
theorem dX10_count_148 : decode cX10_count 148 = .ok (.getfield 184, 3) := by decide +kernel
theorem dX10_count_151 : decode cX10_count 151 = .ok (.ireturn, 1) := by decide +kernel
theorem dX10_count_152 : decode cX10_count 152 = .ok (.aload_n 0, 1) := by decide +kernel
theorem dX10_count_153 : decode cX10_count 153 = .ok (.getfield 13, 3) := by decide +kernel
theorem dX10_count_156 : decode cX10_count 156 = .ok (.ireturn, 1) := by decide +kernel
theorem dX10_count_157 : decode cX10_count 157 = .ok (.aload_n 0, 1) := by decide +kernel
theorem dX10_count_158 : decode cX10_count 158 = .ok (.getfield 20, 3) := by decide +kernel
theorem dX10_count_161 : decode cX10_count 161 = .ok (.iload_n 1, 1) := by decide +kernel
theorem dX10_count_162 : decode cX10_count 162 = .ok (.bipush 11, 2) := by decide +kernel
theorem dX10_count_164 : decode cX10_count 164 = .ok (.isub, 1) := by decide +kernel
theorem dX10_count_165 : decode cX10_count 165 = .ok (.iaload, 1) := by decide +kernel
theorem dX10_count_166 : decode cX10_count 166 = .ok (.ireturn, 1) := by decide +kernel
theorem dX10_deed_0 : decode cX10_deed 0 = .ok (.aload_n 0, 1) := by decide +kernel
theorem dX10_deed_1 : decode cX10_deed 1 = .ok (.iload_n 1, 1) := by decide +kernel
theorem dX10_deed_2 : decode cX10_deed 2 = .ok (.invokevirtual 185, 3) := by decide +kernel
theorem dX10_deed_5 : decode cX10_deed 5 = .ok (.aload_n 0, 1) := by decide +kernel
theorem dX10_deed_6 : decode cX10_deed 6 = .ok (.iload_n 2, 1) := by decide +kernel
theorem dX10_deed_7 : decode cX10_deed 7 = .ok (.iconst 5, 1) := by decide +kernel
theorem dX10_deed_8 : decode cX10_deed 8 = .ok (.invokevirtual 140, 3) := by decide +kernel
theorem dX10_deed_11 : decode cX10_deed 11 = .ok (.iload_n 2, 1) := by decide +kernel
theorem dX10_deed_12 : decode cX10_deed 12 = .ok (.tableswitch 72 0 3 #[32, 42, 54, 66], 32) := by decide +kernel
theorem dX10_deed_44 : decode cX10_deed 44 = .ok (.aload_n 0, 1) := by decide +kernel
theorem dX10_deed_45 : decode cX10_deed 45 = .ok (.getfield 26, 3) := by decide +kernel
theorem dX10_deed_48 : decode cX10_deed 48 = .ok (.getfield 188, 3) := by decide +kernel
theorem dX10_deed_51 : decode cX10_deed 51 = .ok (.iload_n 1, 1) := by decide +kernel
theorem dX10_deed_52 : decode cX10_deed 52 = .ok (.iaload, 1) := by decide +kernel
theorem dX10_deed_53 : decode cX10_deed 53 = .ok (.ireturn, 1) := by decide +kernel
theorem dX10_deed_54 : decode cX10_deed 54 = .ok (.aload_n 0, 1) := by decide +kernel
theorem dX10_deed_55 : decode cX10_deed 55 = .ok (.getfield 45, 3) := by decide +kernel
theorem dX10_deed_58 : decode cX10_deed 58 = .ok (.getfield 191, 3) := by decide +kernel
theorem dX10_deed_61 : decode cX10_deed 61 = .ok (.iload_n 1, 1) := by decide +kernel
theorem dX10_deed_62 : decode cX10_deed 62 = .ok (.invokestatic 194, 3) := by decide +kernel
theorem dX10_deed_65 : decode cX10_deed 65 = .ok (.ireturn, 1) := by decide +kernel
theorem dX10_deed_66 : decode cX10_deed 66 = .ok (.aload_n 0, 1) := by decide +kernel
theorem dX10_deed_67 : decode cX10_deed 67 = .ok (.getfield 45, 3) := by decide +kernel
theorem dX10_deed_70 : decode cX10_deed 70 = .ok (.getfield 161, 3) := by decide +kernel
theorem dX10_deed_73 : decode cX10_deed 73 = .ok (.iload_n 1, 1) := by decide +kernel
theorem dX10_deed_74 : decode cX10_deed 74 = .ok (.invokestatic 194, 3) := by decide +kernel
theorem dX10_deed_77 : decode cX10_deed 77 = .ok (.ireturn, 1) := by decide +kernel
theorem dX10_deed_78 : decode cX10_deed 78 = .ok (.aload_n 0, 1) := by decide +kernel
theorem dX10_deed_79 : decode cX10_deed 79 = .ok (.iload_n 1, 1) := by decide +kernel
theorem dX10_deed_80 : decode cX10_deed 80 = .ok (.invokevirtual 198, 3) := by decide +kernel
theorem dX10_deed_83 : decode cX10_deed 83 = .ok (.ireturn, 1) := by decide +kernel
theorem dX10_deed_84 : decode cX10_deed 84 = .ok (.aload_n 0, 1) := by decide +kernel
theorem dX10_deed_85 : decode cX10_deed 85 = .ok (.iload_n 1, 1) := by decide +kernel
theorem dX10_deed_86 : decode cX10_deed 86 = .ok (.invokevirtual 202, 3) := by decide +kernel
theorem dX10_deed_89 : decode cX10_deed 89 = .ok (.ireturn, 1) := by decide +kernel
theorem dX10_bitsOfDeed_0 : decode cX10_bitsOfDeed 0 = .ok (.lload_n 0, 1) := by decide +kernel
theorem dX10_bitsOfDeed_1 : decode cX10_bitsOfDeed 1 = .ok (.bipush 8, 2) := by decide +kernel
theorem dX10_bitsOfDeed_3 : decode cX10_bitsOfDeed 3 = .ok (.iload_n 2, 1) := by decide +kernel
theorem dX10_bitsOfDeed_4 : decode cX10_bitsOfDeed 4 = .ok (.imul, 1) := by decide +kernel
theorem dX10_bitsOfDeed_5 : decode cX10_bitsOfDeed 5 = .ok (.lushr, 1) := by decide +kernel
theorem dX10_bitsOfDeed_6 : decode cX10_bitsOfDeed 6 = .ok (.l2i, 1) := by decide +kernel
theorem dX10_bitsOfDeed_7 : decode cX10_bitsOfDeed 7 = .ok (.sipush 255, 3) := by decide +kernel
theorem dX10_bitsOfDeed_10 : decode cX10_bitsOfDeed 10 = .ok (.iand, 1) := by decide +kernel
theorem dX10_bitsOfDeed_11 : decode cX10_bitsOfDeed 11 = .ok (.ireturn, 1) := by decide +kernel
theorem dX10_inkOfDeed_0 : decode cX10_inkOfDeed 0 = .ok (.iconst 0, 1) := by decide +kernel
theorem dX10_inkOfDeed_1 : decode cX10_inkOfDeed 1 = .ok (.istore_n 2, 1) := by decide +kernel
theorem dX10_inkOfDeed_2 : decode cX10_inkOfDeed 2 = .ok (.iconst 0, 1) := by decide +kernel
theorem dX10_inkOfDeed_3 : decode cX10_inkOfDeed 3 = .ok (.istore_n 3, 1) := by decide +kernel
theorem dX10_inkOfDeed_4 : decode cX10_inkOfDeed 4 = .ok (.iload_n 3, 1) := by decide +kernel
theorem dX10_inkOfDeed_5 : decode cX10_inkOfDeed 5 = .ok (.aload_n 0, 1) := by decide +kernel
theorem dX10_inkOfDeed_6 : decode cX10_inkOfDeed 6 = .ok (.getfield 26, 3) := by decide +kernel
theorem dX10_inkOfDeed_9 : decode cX10_inkOfDeed 9 = .ok (.getfield 188, 3) := by decide +kernel
theorem dX10_inkOfDeed_12 : decode cX10_inkOfDeed 12 = .ok (.iload_n 1, 1) := by decide +kernel
theorem dX10_inkOfDeed_13 : decode cX10_inkOfDeed 13 = .ok (.iaload, 1) := by decide +kernel
theorem dX10_inkOfDeed_14 : decode cX10_inkOfDeed 14 = .ok (.if_icmp .ge 26, 3) := by decide +kernel
theorem dX10_inkOfDeed_17 : decode cX10_inkOfDeed 17 = .ok (.iload_n 2, 1) := by decide +kernel
theorem dX10_inkOfDeed_18 : decode cX10_inkOfDeed 18 = .ok (.aload_n 0, 1) := by decide +kernel
theorem dX10_inkOfDeed_19 : decode cX10_inkOfDeed 19 = .ok (.getfield 45, 3) := by decide +kernel
theorem dX10_inkOfDeed_22 : decode cX10_inkOfDeed 22 = .ok (.getfield 205, 3) := by decide +kernel
theorem dX10_inkOfDeed_25 : decode cX10_inkOfDeed 25 = .ok (.bipush 8, 2) := by decide +kernel
theorem dX10_inkOfDeed_27 : decode cX10_inkOfDeed 27 = .ok (.iload_n 1, 1) := by decide +kernel
theorem dX10_inkOfDeed_28 : decode cX10_inkOfDeed 28 = .ok (.imul, 1) := by decide +kernel
theorem dX10_inkOfDeed_29 : decode cX10_inkOfDeed 29 = .ok (.iload_n 3, 1) := by decide +kernel
theorem dX10_inkOfDeed_30 : decode cX10_inkOfDeed 30 = .ok (.iadd, 1) := by decide +kernel
theorem dX10_inkOfDeed_31 : decode cX10_inkOfDeed 31 = .ok (.iaload, 1) := by decide +kernel
theorem dX10_inkOfDeed_32 : decode cX10_inkOfDeed 32 = .ok (.iadd, 1) := by decide +kernel
theorem dX10_inkOfDeed_33 : decode cX10_inkOfDeed 33 = .ok (.istore_n 2, 1) := by decide +kernel
theorem dX10_inkOfDeed_34 : decode cX10_inkOfDeed 34 = .ok (.iinc 3 1, 3) := by decide +kernel
theorem dX10_inkOfDeed_37 : decode cX10_inkOfDeed 37 = .ok (.goto (-33), 3) := by decide +kernel
theorem dX10_inkOfDeed_40 : decode cX10_inkOfDeed 40 = .ok (.iload_n 2, 1) := by decide +kernel
theorem dX10_inkOfDeed_41 : decode cX10_inkOfDeed 41 = .ok (.ireturn, 1) := by decide +kernel
theorem dX10_peopleOfDeed_0 : decode cX10_peopleOfDeed 0 = .ok (.iconst 0, 1) := by decide +kernel
theorem dX10_peopleOfDeed_1 : decode cX10_peopleOfDeed 1 = .ok (.istore_n 2, 1) := by decide +kernel
theorem dX10_peopleOfDeed_2 : decode cX10_peopleOfDeed 2 = .ok (.iconst 0, 1) := by decide +kernel
theorem dX10_peopleOfDeed_3 : decode cX10_peopleOfDeed 3 = .ok (.istore_n 3, 1) := by decide +kernel
theorem dX10_peopleOfDeed_4 : decode cX10_peopleOfDeed 4 = .ok (.iload_n 3, 1) := by decide +kernel
theorem dX10_peopleOfDeed_5 : decode cX10_peopleOfDeed 5 = .ok (.aload_n 0, 1) := by decide +kernel
theorem dX10_peopleOfDeed_6 : decode cX10_peopleOfDeed 6 = .ok (.getfield 26, 3) := by decide +kernel
theorem dX10_peopleOfDeed_9 : decode cX10_peopleOfDeed 9 = .ok (.getfield 147, 3) := by decide +kernel
theorem dX10_peopleOfDeed_12 : decode cX10_peopleOfDeed 12 = .ok (.if_icmp .ge 31, 3) := by decide +kernel
theorem dX10_peopleOfDeed_15 : decode cX10_peopleOfDeed 15 = .ok (.aload_n 0, 1) := by decide +kernel
theorem dX10_peopleOfDeed_16 : decode cX10_peopleOfDeed 16 = .ok (.getfield 45, 3) := by decide +kernel
theorem dX10_peopleOfDeed_19 : decode cX10_peopleOfDeed 19 = .ok (.getfield 208, 3) := by decide +kernel
theorem dX10_peopleOfDeed_22 : decode cX10_peopleOfDeed 22 = .ok (.iload_n 3, 1) := by decide +kernel
theorem dX10_peopleOfDeed_23 : decode cX10_peopleOfDeed 23 = .ok (.iaload, 1) := by decide +kernel
theorem dX10_peopleOfDeed_24 : decode cX10_peopleOfDeed 24 = .ok (.bipush 8, 2) := by decide +kernel
theorem dX10_peopleOfDeed_26 : decode cX10_peopleOfDeed 26 = .ok (.idiv, 1) := by decide +kernel
theorem dX10_peopleOfDeed_27 : decode cX10_peopleOfDeed 27 = .ok (.iload_n 1, 1) := by decide +kernel
theorem dX10_peopleOfDeed_28 : decode cX10_peopleOfDeed 28 = .ok (.if_icmp .ne 9, 3) := by decide +kernel
theorem dX10_peopleOfDeed_31 : decode cX10_peopleOfDeed 31 = .ok (.iload_n 2, 1) := by decide +kernel
theorem dX10_peopleOfDeed_32 : decode cX10_peopleOfDeed 32 = .ok (.iconst 1, 1) := by decide +kernel
theorem dX10_peopleOfDeed_33 : decode cX10_peopleOfDeed 33 = .ok (.iload_n 3, 1) := by decide +kernel
theorem dX10_peopleOfDeed_34 : decode cX10_peopleOfDeed 34 = .ok (.ishl, 1) := by decide +kernel
theorem dX10_peopleOfDeed_35 : decode cX10_peopleOfDeed 35 = .ok (.ior, 1) := by decide +kernel
theorem dX10_peopleOfDeed_36 : decode cX10_peopleOfDeed 36 = .ok (.istore_n 2, 1) := by decide +kernel
theorem dX10_peopleOfDeed_37 : decode cX10_peopleOfDeed 37 = .ok (.iinc 3 1, 3) := by decide +kernel
theorem dX10_peopleOfDeed_40 : decode cX10_peopleOfDeed 40 = .ok (.goto (-36), 3) := by decide +kernel
theorem dX10_peopleOfDeed_43 : decode cX10_peopleOfDeed 43 = .ok (.iload_n 2, 1) := by decide +kernel
theorem dX10_peopleOfDeed_44 : decode cX10_peopleOfDeed 44 = .ok (.ireturn, 1) := by decide +kernel
theorem dX10_person_0 : decode cX10_person 0 = .ok (.aload_n 0, 1) := by decide +kernel
theorem dX10_person_1 : decode cX10_person 1 = .ok (.iload_n 1, 1) := by decide +kernel
theorem dX10_person_2 : decode cX10_person 2 = .ok (.invokevirtual 211, 3) := by decide +kernel
theorem dX10_person_5 : decode cX10_person 5 = .ok (.aload_n 0, 1) := by decide +kernel
theorem dX10_person_6 : decode cX10_person 6 = .ok (.iload_n 2, 1) := by decide +kernel
theorem dX10_person_7 : decode cX10_person 7 = .ok (.bipush 6, 2) := by decide +kernel
theorem dX10_person_9 : decode cX10_person 9 = .ok (.invokevirtual 140, 3) := by decide +kernel
theorem dX10_person_12 : decode cX10_person 12 = .ok (.iload_n 2, 1) := by decide +kernel
theorem dX10_person_13 : decode cX10_person 13 = .ok (.tableswitch 124 0 4 #[35, 48, 58, 71, 81], 35) := by decide +kernel
theorem dX10_person_48 : decode cX10_person 48 = .ok (.aload_n 0, 1) := by decide +kernel
theorem dX10_person_49 : decode cX10_person 49 = .ok (.getfield 45, 3) := by decide +kernel
theorem dX10_person_52 : decode cX10_person 52 = .ok (.getfield 208, 3) := by decide +kernel
theorem dX10_person_55 : decode cX10_person 55 = .ok (.iload_n 1, 1) := by decide +kernel
theorem dX10_person_56 : decode cX10_person 56 = .ok (.iaload, 1) := by decide +kernel
theorem dX10_person_57 : decode cX10_person 57 = .ok (.invokestatic 214, 3) := by decide +kernel
theorem dX10_person_60 : decode cX10_person 60 = .ok (.ireturn, 1) := by decide +kernel
theorem dX10_person_61 : decode cX10_person 61 = .ok (.aload_n 0, 1) := by decide +kernel
theorem dX10_person_62 : decode cX10_person 62 = .ok (.getfield 26, 3) := by decide +kernel
theorem dX10_person_65 : decode cX10_person 65 = .ok (.getfield 217, 3) := by decide +kernel
theorem dX10_person_68 : decode cX10_person 68 = .ok (.iload_n 1, 1) := by decide +kernel
theorem dX10_person_69 : decode cX10_person 69 = .ok (.iaload, 1) := by decide +kernel
theorem dX10_person_70 : decode cX10_person 70 = .ok (.ireturn, 1) := by decide +kernel
theorem dX10_person_71 : decode cX10_person 71 = .ok (.aload_n 0, 1) := by decide +kernel
theorem dX10_person_72 : decode cX10_person 72 = .ok (.getfield 45, 3) := by decide +kernel
theorem dX10_person_75 : decode cX10_person 75 = .ok (.getfield 220, 3) := by decide +kernel
theorem dX10_person_78 : decode cX10_person 78 = .ok (.iload_n 1, 1) := by decide +kernel
theorem dX10_person_79 : decode cX10_person 79 = .ok (.iaload, 1) := by decide +kernel
theorem dX10_person_80 : decode cX10_person 80 = .ok (.invokestatic 214, 3) := by decide +kernel
theorem dX10_person_83 : decode cX10_person 83 = .ok (.ireturn, 1) := by decide +kernel
theorem dX10_person_84 : decode cX10_person 84 = .ok (.aload_n 0, 1) := by decide +kernel
theorem dX10_person_85 : decode cX10_person 85 = .ok (.getfield 45, 3) := by decide +kernel
theorem dX10_person_88 : decode cX10_person 88 = .ok (.getfield 223, 3) := by decide +kernel
theorem dX10_person_91 : decode cX10_person 91 = .ok (.iload_n 1, 1) := by decide +kernel
theorem dX10_person_92 : decode cX10_person 92 = .ok (.iaload, 1) := by decide +kernel
theorem dX10_person_93 : decode cX10_person 93 = .ok (.ireturn, 1) := by decide +kernel
theorem dX10_person_94 : decode cX10_person 94 = .ok (.aload_n 0, 1) := by decide +kernel
theorem dX10_person_95 : decode cX10_person 95 = .ok (.getfield 45, 3) := by decide +kernel
theorem dX10_person_98 : decode cX10_person 98 = .ok (.getfield 220, 3) := by decide +kernel
theorem dX10_person_101 : decode cX10_person 101 = .ok (.iload_n 1, 1) := by decide +kernel
theorem dX10_person_102 : decode cX10_person 102 = .ok (.iaload, 1) := by decide +kernel
theorem dX10_person_103 : decode cX10_person 103 = .ok (.iconst (-1), 1) := by decide +kernel
theorem dX10_person_104 : decode cX10_person 104 = .ok (.if_icmp .ne 7, 3) := by decide +kernel
theorem dX10_person_107 : decode cX10_person 107 = .ok (.iconst (-1), 1) := by decide +kernel
theorem dX10_person_108 : decode cX10_person 108 = .ok (.goto 28, 3) := by decide +kernel
theorem dX10_person_111 : decode cX10_person 111 = .ok (.aload_n 0, 1) := by decide +kernel
theorem dX10_person_112 : decode cX10_person 112 = .ok (.invokevirtual 153, 3) := by decide +kernel
theorem dX10_person_115 : decode cX10_person 115 = .ok (.aload_n 0, 1) := by decide +kernel
theorem dX10_person_116 : decode cX10_person 116 = .ok (.getfield 45, 3) := by decide +kernel
theorem dX10_person_119 : decode cX10_person 119 = .ok (.getfield 208, 3) := by decide +kernel
theorem dX10_person_122 : decode cX10_person 122 = .ok (.iload_n 1, 1) := by decide +kernel
theorem dX10_person_123 : decode cX10_person 123 = .ok (.iaload, 1) := by decide +kernel
theorem dX10_person_124 : decode cX10_person 124 = .ok (.aload_n 0, 1) := by decide +kernel
theorem dX10_person_125 : decode cX10_person 125 = .ok (.getfield 45, 3) := by decide +kernel
theorem dX10_person_128 : decode cX10_person 128 = .ok (.getfield 220, 3) := by decide +kernel
theorem dX10_person_131 : decode cX10_person 131 = .ok (.iload_n 1, 1) := by decide +kernel
theorem dX10_person_132 : decode cX10_person 132 = .ok (.iaload, 1) := by decide +kernel
theorem dX10_person_133 : decode cX10_person 133 = .ok (.invokevirtual 226, 3) := by decide +kernel
theorem dX10_person_136 : decode cX10_person 136 = .ok (.ireturn, 1) := by decide +kernel
theorem dX10_person_137 : decode cX10_person 137 = .ok (.aload_n 0, 1) := by decide +kernel
theorem dX10_person_138 : decode cX10_person 138 = .ok (.getfield 45, 3) := by decide +kernel
theorem dX10_person_141 : decode cX10_person 141 = .ok (.iload_n 1, 1) := by decide +kernel
theorem dX10_person_142 : decode cX10_person 142 = .ok (.invokevirtual 230, 3) := by decide +kernel
theorem dX10_person_145 : decode cX10_person 145 = .ok (.ireturn, 1) := by decide +kernel
theorem dX10_ink_0 : decode cX10_ink 0 = .ok (.aload_n 0, 1) := by decide +kernel
theorem dX10_ink_1 : decode cX10_ink 1 = .ok (.getfield 45, 3) := by decide +kernel
theorem dX10_ink_4 : decode cX10_ink 4 = .ok (.getfield 205, 3) := by decide +kernel
theorem dX10_ink_7 : decode cX10_ink 7 = .ok (.aload_n 0, 1) := by decide +kernel
theorem dX10_ink_8 : decode cX10_ink 8 = .ok (.iload_n 1, 1) := by decide +kernel
theorem dX10_ink_9 : decode cX10_ink 9 = .ok (.invokevirtual 233, 3) := by decide +kernel
theorem dX10_ink_12 : decode cX10_ink 12 = .ok (.iaload, 1) := by decide +kernel
theorem dX10_ink_13 : decode cX10_ink 13 = .ok (.ireturn, 1) := by decide +kernel
theorem dX10_days_0 : decode cX10_days 0 = .ok (.iload_n 1, 1) := by decide +kernel
theorem dX10_days_1 : decode cX10_days 1 = .ok (.iconst 1, 1) := by decide +kernel
theorem dX10_days_2 : decode cX10_days 2 = .ok (.if_icmp .lt 24, 3) := by decide +kernel
theorem dX10_days_5 : decode cX10_days 5 = .ok (.iload_n 1, 1) := by decide +kernel
theorem dX10_days_6 : decode cX10_days 6 = .ok (.bipush 20, 2) := by decide +kernel
theorem dX10_days_8 : decode cX10_days 8 = .ok (.if_icmp .gt 18, 3) := by decide +kernel
theorem dX10_days_11 : decode cX10_days 11 = .ok (.aload_n 0, 1) := by decide +kernel
theorem dX10_days_12 : decode cX10_days 12 = .ok (.getfield 45, 3) := by decide +kernel
theorem dX10_days_15 : decode cX10_days 15 = .ok (.getfield 150, 3) := by decide +kernel
theorem dX10_days_18 : decode cX10_days 18 = .ok (.iload_n 1, 1) := by decide +kernel
theorem dX10_days_19 : decode cX10_days 19 = .ok (.iadd, 1) := by decide +kernel
theorem dX10_days_20 : decode cX10_days 20 = .ok (.sipush 9999, 3) := by decide +kernel
theorem dX10_days_23 : decode cX10_days 23 = .ok (.if_icmp .le 15, 3) := by decide +kernel
theorem dX10_days_26 : decode cX10_days 26 = .ok (.aload_n 0, 1) := by decide +kernel
theorem dX10_days_27 : decode cX10_days 27 = .ok (.getfield 20, 3) := by decide +kernel
theorem dX10_days_30 : decode cX10_days 30 = .ok (.iconst 1, 1) := by decide +kernel
theorem dX10_days_31 : decode cX10_days 31 = .ok (.dup2, 1) := by decide +kernel
theorem dX10_days_32 : decode cX10_days 32 = .ok (.iaload, 1) := by decide +kernel
theorem dX10_days_33 : decode cX10_days 33 = .ok (.iconst 1, 1) := by decide +kernel
theorem dX10_days_34 : decode cX10_days 34 = .ok (.iadd, 1) := by decide +kernel
theorem dX10_days_35 : decode cX10_days 35 = .ok (.iastore, 1) := by decide +kernel
theorem dX10_days_36 : decode cX10_days 36 = .ok (.iconst (-1), 1) := by decide +kernel
theorem dX10_days_37 : decode cX10_days 37 = .ok (.ireturn, 1) := by decide +kernel
theorem dX10_days_38 : decode cX10_days 38 = .ok (.aload_n 0, 1) := by decide +kernel
theorem dX10_days_39 : decode cX10_days 39 = .ok (.getfield 52, 3) := by decide +kernel
theorem dX10_days_42 : decode cX10_days 42 = .ok (.aload_n 0, 1) := by decide +kernel
theorem dX10_days_43 : decode cX10_days 43 = .ok (.getfield 45, 3) := by decide +kernel
theorem dX10_days_46 : decode cX10_days 46 = .ok (.invokevirtual 236, 3) := by decide +kernel
theorem dX10_days_49 : decode cX10_days 49 = .ok (.aload_n 0, 1) := by decide +kernel
theorem dX10_days_50 : decode cX10_days 50 = .ok (.iload_n 1, 1) := by decide +kernel
theorem dX10_days_51 : decode cX10_days 51 = .ok (.invokevirtual 239, 3) := by decide +kernel
theorem dX10_days_54 : decode cX10_days 54 = .ok (.aload_n 0, 1) := by decide +kernel
theorem dX10_days_55 : decode cX10_days 55 = .ok (.getfield 45, 3) := by decide +kernel
theorem dX10_days_58 : decode cX10_days 58 = .ok (.aload_n 0, 1) := by decide +kernel
theorem dX10_days_59 : decode cX10_days 59 = .ok (.getfield 79, 3) := by decide +kernel
theorem dX10_days_62 : decode cX10_days 62 = .ok (.getfield 242, 3) := by decide +kernel
theorem dX10_days_65 : decode cX10_days 65 = .ok (.invokevirtual 132, 3) := by decide +kernel
theorem dX10_days_68 : decode cX10_days 68 = .ok (.aload_n 0, 1) := by decide +kernel
theorem dX10_days_69 : decode cX10_days 69 = .ok (.getfield 45, 3) := by decide +kernel
theorem dX10_days_72 : decode cX10_days 72 = .ok (.getfield 150, 3) := by decide +kernel
theorem dX10_days_75 : decode cX10_days 75 = .ok (.ireturn, 1) := by decide +kernel
theorem dX10_type_0 : decode cX10_type 0 = .ok (.aload_n 0, 1) := by decide +kernel
theorem dX10_type_1 : decode cX10_type 1 = .ok (.iload_n 1, 1) := by decide +kernel
theorem dX10_type_2 : decode cX10_type 2 = .ok (.invokevirtual 233, 3) := by decide +kernel
theorem dX10_type_5 : decode cX10_type 5 = .ok (.istore_n 3, 1) := by decide +kernel
theorem dX10_type_6 : decode cX10_type 6 = .ok (.iload_n 2, 1) := by decide +kernel
theorem dX10_type_7 : decode cX10_type 7 = .ok (.ifCond .lt 9, 3) := by decide +kernel
theorem dX10_type_10 : decode cX10_type 10 = .ok (.iload_n 2, 1) := by decide +kernel
theorem dX10_type_11 : decode cX10_type 11 = .ok (.bipush 9, 2) := by decide +kernel
theorem dX10_type_13 : decode cX10_type 13 = .ok (.if_icmp .le 15, 3) := by decide +kernel
theorem dX10_type_16 : decode cX10_type 16 = .ok (.aload_n 0, 1) := by decide +kernel
theorem dX10_type_17 : decode cX10_type 17 = .ok (.getfield 20, 3) := by decide +kernel
theorem dX10_type_20 : decode cX10_type 20 = .ok (.iconst 1, 1) := by decide +kernel
theorem dX10_type_21 : decode cX10_type 21 = .ok (.dup2, 1) := by decide +kernel
theorem dX10_type_22 : decode cX10_type 22 = .ok (.iaload, 1) := by decide +kernel
theorem dX10_type_23 : decode cX10_type 23 = .ok (.iconst 1, 1) := by decide +kernel
theorem dX10_type_24 : decode cX10_type 24 = .ok (.iadd, 1) := by decide +kernel
theorem dX10_type_25 : decode cX10_type 25 = .ok (.iastore, 1) := by decide +kernel
theorem dX10_type_26 : decode cX10_type 26 = .ok (.iconst (-1), 1) := by decide +kernel
theorem dX10_type_27 : decode cX10_type 27 = .ok (.ireturn, 1) := by decide +kernel
theorem dX10_type_28 : decode cX10_type 28 = .ok (.aload_n 0, 1) := by decide +kernel
theorem dX10_type_29 : decode cX10_type 29 = .ok (.getfield 45, 3) := by decide +kernel
theorem dX10_type_32 : decode cX10_type 32 = .ok (.getfield 205, 3) := by decide +kernel
theorem dX10_type_35 : decode cX10_type 35 = .ok (.iload_n 3, 1) := by decide +kernel
theorem dX10_type_36 : decode cX10_type 36 = .ok (.iaload, 1) := by decide +kernel
theorem dX10_type_37 : decode cX10_type 37 = .ok (.istore 4, 2) := by decide +kernel
theorem dX10_type_39 : decode cX10_type 39 = .ok (.aload_n 0, 1) := by decide +kernel
theorem dX10_type_40 : decode cX10_type 40 = .ok (.getfield 52, 3) := by decide +kernel
theorem dX10_type_43 : decode cX10_type 43 = .ok (.aload_n 0, 1) := by decide +kernel
theorem dX10_type_44 : decode cX10_type 44 = .ok (.getfield 45, 3) := by decide +kernel
theorem dX10_type_47 : decode cX10_type 47 = .ok (.invokevirtual 236, 3) := by decide +kernel
theorem dX10_type_50 : decode cX10_type 50 = .ok (.aload_n 0, 1) := by decide +kernel
theorem dX10_type_51 : decode cX10_type 51 = .ok (.getfield 45, 3) := by decide +kernel
theorem dX10_type_54 : decode cX10_type 54 = .ok (.iload_n 3, 1) := by decide +kernel
theorem dX10_type_55 : decode cX10_type 55 = .ok (.iload_n 2, 1) := by decide +kernel
theorem dX10_type_56 : decode cX10_type 56 = .ok (.invokevirtual 245, 3) := by decide +kernel
theorem dX10_type_59 : decode cX10_type 59 = .ok (.iload 4, 2) := by decide +kernel
theorem dX10_type_61 : decode cX10_type 61 = .ok (.ireturn, 1) := by decide +kernel
theorem dX10_stile_0 : decode cX10_stile 0 = .ok (.aload_n 0, 1) := by decide +kernel
theorem dX10_stile_1 : decode cX10_stile 1 = .ok (.iload_n 1, 1) := by decide +kernel
theorem dX10_stile_2 : decode cX10_stile 2 = .ok (.invokevirtual 233, 3) := by decide +kernel
theorem dX10_stile_5 : decode cX10_stile 5 = .ok (.istore_n 3, 1) := by decide +kernel
theorem dX10_stile_6 : decode cX10_stile 6 = .ok (.aload_n 0, 1) := by decide +kernel
theorem dX10_stile_7 : decode cX10_stile 7 = .ok (.getfield 45, 3) := by decide +kernel
theorem dX10_stile_10 : decode cX10_stile 10 = .ok (.getfield 161, 3) := by decide +kernel
theorem dX10_stile_13 : decode cX10_stile 13 = .ok (.iload_n 3, 1) := by decide +kernel
theorem dX10_stile_14 : decode cX10_stile 14 = .ok (.invokestatic 248, 3) := by decide +kernel
theorem dX10_stile_17 : decode cX10_stile 17 = .ok (.land, 1) := by decide +kernel
theorem dX10_stile_18 : decode cX10_stile 18 = .ok (.lconst 0, 1) := by decide +kernel
theorem dX10_stile_19 : decode cX10_stile 19 = .ok (.lcmp, 1) := by decide +kernel
theorem dX10_stile_20 : decode cX10_stile 20 = .ok (.ifCond .eq 7, 3) := by decide +kernel
theorem dX10_stile_23 : decode cX10_stile 23 = .ok (.iconst 1, 1) := by decide +kernel
theorem dX10_stile_24 : decode cX10_stile 24 = .ok (.goto 4, 3) := by decide +kernel
theorem dX10_stile_27 : decode cX10_stile 27 = .ok (.iconst 0, 1) := by decide +kernel
theorem dX10_stile_28 : decode cX10_stile 28 = .ok (.istore 4, 2) := by decide +kernel
theorem dX10_stile_30 : decode cX10_stile 30 = .ok (.iload 4, 2) := by decide +kernel
theorem dX10_stile_32 : decode cX10_stile 32 = .ok (.iload_n 2, 1) := by decide +kernel
theorem dX10_stile_33 : decode cX10_stile 33 = .ok (.if_icmp .eq 17, 3) := by decide +kernel
theorem dX10_stile_36 : decode cX10_stile 36 = .ok (.aload_n 0, 1) := by decide +kernel
theorem dX10_stile_37 : decode cX10_stile 37 = .ok (.getfield 26, 3) := by decide +kernel
theorem dX10_stile_40 : decode cX10_stile 40 = .ok (.iload_n 3, 1) := by decide +kernel
theorem dX10_stile_41 : decode cX10_stile 41 = .ok (.bipush 8, 2) := by decide +kernel
theorem dX10_stile_43 : decode cX10_stile 43 = .ok (.iadd, 1) := by decide +kernel
theorem dX10_stile_44 : decode cX10_stile 44 = .ok (.invokevirtual 252, 3) := by decide +kernel
theorem dX10_stile_47 : decode cX10_stile 47 = .ok (.ifCond .ne 15, 3) := by decide +kernel
theorem dX10_stile_50 : decode cX10_stile 50 = .ok (.aload_n 0, 1) := by decide +kernel
theorem dX10_stile_51 : decode cX10_stile 51 = .ok (.getfield 20, 3) := by decide +kernel
theorem dX10_stile_54 : decode cX10_stile 54 = .ok (.iconst 1, 1) := by decide +kernel
theorem dX10_stile_55 : decode cX10_stile 55 = .ok (.dup2, 1) := by decide +kernel
theorem dX10_stile_56 : decode cX10_stile 56 = .ok (.iaload, 1) := by decide +kernel
theorem dX10_stile_57 : decode cX10_stile 57 = .ok (.iconst 1, 1) := by decide +kernel
theorem dX10_stile_58 : decode cX10_stile 58 = .ok (.iadd, 1) := by decide +kernel
theorem dX10_stile_59 : decode cX10_stile 59 = .ok (.iastore, 1) := by decide +kernel
theorem dX10_stile_60 : decode cX10_stile 60 = .ok (.iconst 0, 1) := by decide +kernel
theorem dX10_stile_61 : decode cX10_stile 61 = .ok (.ireturn, 1) := by decide +kernel
theorem dX10_stile_62 : decode cX10_stile 62 = .ok (.aload_n 0, 1) := by decide +kernel
theorem dX10_stile_63 : decode cX10_stile 63 = .ok (.getfield 52, 3) := by decide +kernel
theorem dX10_stile_66 : decode cX10_stile 66 = .ok (.aload_n 0, 1) := by decide +kernel
theorem dX10_stile_67 : decode cX10_stile 67 = .ok (.getfield 45, 3) := by decide +kernel
theorem dX10_stile_70 : decode cX10_stile 70 = .ok (.invokevirtual 236, 3) := by decide +kernel
theorem dX10_stile_73 : decode cX10_stile 73 = .ok (.aload_n 0, 1) := by decide +kernel
theorem dX10_stile_74 : decode cX10_stile 74 = .ok (.getfield 45, 3) := by decide +kernel
theorem dX10_stile_77 : decode cX10_stile 77 = .ok (.dup, 1) := by decide +kernel
theorem dX10_stile_78 : decode cX10_stile 78 = .ok (.getfield 161, 3) := by decide +kernel
theorem dX10_stile_81 : decode cX10_stile 81 = .ok (.iload_n 3, 1) := by decide +kernel
theorem dX10_stile_82 : decode cX10_stile 82 = .ok (.invokestatic 248, 3) := by decide +kernel
theorem dX10_stile_85 : decode cX10_stile 85 = .ok (.lxor, 1) := by decide +kernel
theorem dX10_stile_86 : decode cX10_stile 86 = .ok (.putfield 161, 3) := by decide +kernel
theorem dX10_stile_89 : decode cX10_stile 89 = .ok (.iconst 1, 1) := by decide +kernel
theorem dX10_stile_90 : decode cX10_stile 90 = .ok (.ireturn, 1) := by decide +kernel
theorem dX10_send_0 : decode cX10_send 0 = .ok (.aload_n 0, 1) := by decide +kernel
theorem dX10_send_1 : decode cX10_send 1 = .ok (.iload_n 1, 1) := by decide +kernel
theorem dX10_send_2 : decode cX10_send 2 = .ok (.invokevirtual 211, 3) := by decide +kernel
theorem dX10_send_5 : decode cX10_send 5 = .ok (.iload_n 2, 1) := by decide +kernel
theorem dX10_send_6 : decode cX10_send 6 = .ok (.iconst (-1), 1) := by decide +kernel
theorem dX10_send_7 : decode cX10_send 7 = .ok (.if_icmp .ne 7, 3) := by decide +kernel
theorem dX10_send_10 : decode cX10_send 10 = .ok (.iconst (-1), 1) := by decide +kernel
theorem dX10_send_11 : decode cX10_send 11 = .ok (.goto 8, 3) := by decide +kernel
theorem dX10_send_14 : decode cX10_send 14 = .ok (.aload_n 0, 1) := by decide +kernel
theorem dX10_send_15 : decode cX10_send 15 = .ok (.iload_n 2, 1) := by decide +kernel
theorem dX10_send_16 : decode cX10_send 16 = .ok (.invokevirtual 233, 3) := by decide +kernel
theorem dX10_send_19 : decode cX10_send 19 = .ok (.istore_n 3, 1) := by decide +kernel
theorem dX10_send_20 : decode cX10_send 20 = .ok (.aload_n 0, 1) := by decide +kernel
theorem dX10_send_21 : decode cX10_send 21 = .ok (.getfield 45, 3) := by decide +kernel
theorem dX10_send_24 : decode cX10_send 24 = .ok (.getfield 220, 3) := by decide +kernel
theorem dX10_send_27 : decode cX10_send 27 = .ok (.iload_n 1, 1) := by decide +kernel
theorem dX10_send_28 : decode cX10_send 28 = .ok (.iaload, 1) := by decide +kernel
theorem dX10_send_29 : decode cX10_send 29 = .ok (.istore 4, 2) := by decide +kernel
theorem dX10_send_31 : decode cX10_send 31 = .ok (.iload 4, 2) := by decide +kernel
theorem dX10_send_33 : decode cX10_send 33 = .ok (.iload_n 3, 1) := by decide +kernel
theorem dX10_send_34 : decode cX10_send 34 = .ok (.if_icmp .ne 16, 3) := by decide +kernel
theorem dX10_send_37 : decode cX10_send 37 = .ok (.aload_n 0, 1) := by decide +kernel
theorem dX10_send_38 : decode cX10_send 38 = .ok (.getfield 20, 3) := by decide +kernel
theorem dX10_send_41 : decode cX10_send 41 = .ok (.iconst 1, 1) := by decide +kernel
theorem dX10_send_42 : decode cX10_send 42 = .ok (.dup2, 1) := by decide +kernel
theorem dX10_send_43 : decode cX10_send 43 = .ok (.iaload, 1) := by decide +kernel
theorem dX10_send_44 : decode cX10_send 44 = .ok (.iconst 1, 1) := by decide +kernel
theorem dX10_send_45 : decode cX10_send 45 = .ok (.iadd, 1) := by decide +kernel
theorem dX10_send_46 : decode cX10_send 46 = .ok (.iastore, 1) := by decide +kernel
theorem dX10_send_47 : decode cX10_send 47 = .ok (.bipush (-2), 2) := by decide +kernel
theorem dX10_send_49 : decode cX10_send 49 = .ok (.ireturn, 1) := by decide +kernel
theorem dX10_send_50 : decode cX10_send 50 = .ok (.aload_n 0, 1) := by decide +kernel
theorem dX10_send_51 : decode cX10_send 51 = .ok (.getfield 52, 3) := by decide +kernel
theorem dX10_send_54 : decode cX10_send 54 = .ok (.aload_n 0, 1) := by decide +kernel
theorem dX10_send_55 : decode cX10_send 55 = .ok (.getfield 45, 3) := by decide +kernel
theorem dX10_send_58 : decode cX10_send 58 = .ok (.invokevirtual 236, 3) := by decide +kernel
theorem dX10_send_61 : decode cX10_send 61 = .ok (.aload_n 0, 1) := by decide +kernel
theorem dX10_send_62 : decode cX10_send 62 = .ok (.getfield 45, 3) := by decide +kernel
theorem dX10_send_65 : decode cX10_send 65 = .ok (.getfield 220, 3) := by decide +kernel
theorem dX10_send_68 : decode cX10_send 68 = .ok (.iload_n 1, 1) := by decide +kernel
theorem dX10_send_69 : decode cX10_send 69 = .ok (.iload_n 3, 1) := by decide +kernel
theorem dX10_send_70 : decode cX10_send 70 = .ok (.iastore, 1) := by decide +kernel
theorem dX10_send_71 : decode cX10_send 71 = .ok (.iload 4, 2) := by decide +kernel
theorem dX10_send_73 : decode cX10_send 73 = .ok (.invokestatic 214, 3) := by decide +kernel
theorem dX10_send_76 : decode cX10_send 76 = .ok (.ireturn, 1) := by decide +kernel
theorem dX10_let_0 : decode cX10_let 0 = .ok (.aload_n 0, 1) := by decide +kernel
theorem dX10_let_1 : decode cX10_let 1 = .ok (.iload_n 1, 1) := by decide +kernel
theorem dX10_let_2 : decode cX10_let 2 = .ok (.invokevirtual 211, 3) := by decide +kernel
theorem dX10_let_5 : decode cX10_let 5 = .ok (.aload_n 0, 1) := by decide +kernel
theorem dX10_let_6 : decode cX10_let 6 = .ok (.iload_n 2, 1) := by decide +kernel
theorem dX10_let_7 : decode cX10_let 7 = .ok (.invokevirtual 233, 3) := by decide +kernel
theorem dX10_let_10 : decode cX10_let 10 = .ok (.istore_n 3, 1) := by decide +kernel
theorem dX10_let_11 : decode cX10_let 11 = .ok (.aload_n 0, 1) := by decide +kernel
theorem dX10_let_12 : decode cX10_let 12 = .ok (.getfield 45, 3) := by decide +kernel
theorem dX10_let_15 : decode cX10_let 15 = .ok (.getfield 208, 3) := by decide +kernel
theorem dX10_let_18 : decode cX10_let 18 = .ok (.iload_n 1, 1) := by decide +kernel
theorem dX10_let_19 : decode cX10_let 19 = .ok (.iaload, 1) := by decide +kernel
theorem dX10_let_20 : decode cX10_let 20 = .ok (.istore 4, 2) := by decide +kernel
theorem dX10_let_22 : decode cX10_let 22 = .ok (.iload 4, 2) := by decide +kernel
theorem dX10_let_24 : decode cX10_let 24 = .ok (.iload_n 3, 1) := by decide +kernel
theorem dX10_let_25 : decode cX10_let 25 = .ok (.if_icmp .eq 15, 3) := by decide +kernel
theorem dX10_let_28 : decode cX10_let 28 = .ok (.aload_n 0, 1) := by decide +kernel
theorem dX10_let_29 : decode cX10_let 29 = .ok (.getfield 45, 3) := by decide +kernel
theorem dX10_let_32 : decode cX10_let 32 = .ok (.getfield 205, 3) := by decide +kernel
theorem dX10_let_35 : decode cX10_let 35 = .ok (.iload_n 3, 1) := by decide +kernel
theorem dX10_let_36 : decode cX10_let 36 = .ok (.iaload, 1) := by decide +kernel
theorem dX10_let_37 : decode cX10_let 37 = .ok (.ifCond .eq 15, 3) := by decide +kernel
theorem dX10_let_40 : decode cX10_let 40 = .ok (.aload_n 0, 1) := by decide +kernel
theorem dX10_let_41 : decode cX10_let 41 = .ok (.getfield 20, 3) := by decide +kernel
theorem dX10_let_44 : decode cX10_let 44 = .ok (.iconst 1, 1) := by decide +kernel
theorem dX10_let_45 : decode cX10_let 45 = .ok (.dup2, 1) := by decide +kernel
theorem dX10_let_46 : decode cX10_let 46 = .ok (.iaload, 1) := by decide +kernel
theorem dX10_let_47 : decode cX10_let 47 = .ok (.iconst 1, 1) := by decide +kernel
theorem dX10_let_48 : decode cX10_let 48 = .ok (.iadd, 1) := by decide +kernel
theorem dX10_let_49 : decode cX10_let 49 = .ok (.iastore, 1) := by decide +kernel
theorem dX10_let_50 : decode cX10_let 50 = .ok (.iconst (-1), 1) := by decide +kernel
theorem dX10_let_51 : decode cX10_let 51 = .ok (.ireturn, 1) := by decide +kernel
theorem dX10_let_52 : decode cX10_let 52 = .ok (.aload_n 0, 1) := by decide +kernel
theorem dX10_let_53 : decode cX10_let 53 = .ok (.getfield 52, 3) := by decide +kernel
theorem dX10_let_56 : decode cX10_let 56 = .ok (.aload_n 0, 1) := by decide +kernel
theorem dX10_let_57 : decode cX10_let 57 = .ok (.getfield 45, 3) := by decide +kernel
theorem dX10_let_60 : decode cX10_let 60 = .ok (.invokevirtual 236, 3) := by decide +kernel
theorem dX10_let_63 : decode cX10_let 63 = .ok (.aload_n 0, 1) := by decide +kernel
theorem dX10_let_64 : decode cX10_let 64 = .ok (.getfield 45, 3) := by decide +kernel
theorem dX10_let_67 : decode cX10_let 67 = .ok (.getfield 208, 3) := by decide +kernel
theorem dX10_let_70 : decode cX10_let 70 = .ok (.iload_n 1, 1) := by decide +kernel
theorem dX10_let_71 : decode cX10_let 71 = .ok (.iload_n 3, 1) := by decide +kernel
theorem dX10_let_72 : decode cX10_let 72 = .ok (.iastore, 1) := by decide +kernel
theorem dX10_let_73 : decode cX10_let 73 = .ok (.iload 4, 2) := by decide +kernel
theorem dX10_let_75 : decode cX10_let 75 = .ok (.invokestatic 214, 3) := by decide +kernel
theorem dX10_let_78 : decode cX10_let 78 = .ok (.ireturn, 1) := by decide +kernel
theorem dX10_undo_0 : decode cX10_undo 0 = .ok (.aload_n 0, 1) := by decide +kernel
theorem dX10_undo_1 : decode cX10_undo 1 = .ok (.getfield 52, 3) := by decide +kernel
theorem dX10_undo_4 : decode cX10_undo 4 = .ok (.aload_n 0, 1) := by decide +kernel
theorem dX10_undo_5 : decode cX10_undo 5 = .ok (.getfield 45, 3) := by decide +kernel
theorem dX10_undo_8 : decode cX10_undo 8 = .ok (.invokevirtual 256, 3) := by decide +kernel
theorem dX10_undo_11 : decode cX10_undo 11 = .ok (.ifCond .eq 13, 3) := by decide +kernel
theorem dX10_undo_14 : decode cX10_undo 14 = .ok (.aload_n 0, 1) := by decide +kernel
theorem dX10_undo_15 : decode cX10_undo 15 = .ok (.getfield 52, 3) := by decide +kernel
theorem dX10_undo_18 : decode cX10_undo 18 = .ok (.getfield 181, 3) := by decide +kernel
theorem dX10_undo_21 : decode cX10_undo 21 = .ok (.goto 4, 3) := by decide +kernel
theorem dX10_undo_24 : decode cX10_undo 24 = .ok (.iconst (-1), 1) := by decide +kernel
theorem dX10_undo_25 : decode cX10_undo 25 = .ok (.ireturn, 1) := by decide +kernel
theorem dX10_then_0 : decode cX10_then 0 = .ok (.aload_n 0, 1) := by decide +kernel
theorem dX10_then_1 : decode cX10_then 1 = .ok (.iload_n 1, 1) := by decide +kernel
theorem dX10_then_2 : decode cX10_then 2 = .ok (.invokevirtual 211, 3) := by decide +kernel
theorem dX10_then_5 : decode cX10_then 5 = .ok (.aload_n 0, 1) := by decide +kernel
theorem dX10_then_6 : decode cX10_then 6 = .ok (.iload_n 3, 1) := by decide +kernel
theorem dX10_then_7 : decode cX10_then 7 = .ok (.iconst 4, 1) := by decide +kernel
theorem dX10_then_8 : decode cX10_then 8 = .ok (.invokevirtual 140, 3) := by decide +kernel
theorem dX10_then_11 : decode cX10_then 11 = .ok (.aload_n 0, 1) := by decide +kernel
theorem dX10_then_12 : decode cX10_then 12 = .ok (.iload_n 2, 1) := by decide +kernel
theorem dX10_then_13 : decode cX10_then 13 = .ok (.iconst 0, 1) := by decide +kernel
theorem dX10_then_14 : decode cX10_then 14 = .ok (.bipush 60, 2) := by decide +kernel
theorem dX10_then_16 : decode cX10_then 16 = .ok (.invokevirtual 260, 3) := by decide +kernel
theorem dX10_then_19 : decode cX10_then 19 = .ok (.aload_n 0, 1) := by decide +kernel
theorem dX10_then_20 : decode cX10_then 20 = .ok (.iload_n 2, 1) := by decide +kernel
theorem dX10_then_21 : decode cX10_then 21 = .ok (.invokevirtual 239, 3) := by decide +kernel
theorem dX10_then_24 : decode cX10_then 24 = .ok (.aload_n 0, 1) := by decide +kernel
theorem dX10_then_25 : decode cX10_then 25 = .ok (.getfield 79, 3) := by decide +kernel
theorem dX10_then_28 : decode cX10_then 28 = .ok (.getfield 242, 3) := by decide +kernel
theorem dX10_then_31 : decode cX10_then 31 = .ok (.getfield 208, 3) := by decide +kernel
theorem dX10_then_34 : decode cX10_then 34 = .ok (.iload_n 1, 1) := by decide +kernel
theorem dX10_then_35 : decode cX10_then 35 = .ok (.iaload, 1) := by decide +kernel
theorem dX10_then_36 : decode cX10_then 36 = .ok (.istore 4, 2) := by decide +kernel
theorem dX10_then_38 : decode cX10_then 38 = .ok (.iload_n 3, 1) := by decide +kernel
theorem dX10_then_39 : decode cX10_then 39 = .ok (.tableswitch 50 0 2 #[25, 31, 37], 25) := by decide +kernel
theorem dX10_then_64 : decode cX10_then 64 = .ok (.iload 4, 2) := by decide +kernel
theorem dX10_then_66 : decode cX10_then 66 = .ok (.bipush 8, 2) := by decide +kernel
theorem dX10_then_68 : decode cX10_then 68 = .ok (.idiv, 1) := by decide +kernel
theorem dX10_then_69 : decode cX10_then 69 = .ok (.ireturn, 1) := by decide +kernel
theorem dX10_then_70 : decode cX10_then 70 = .ok (.iload 4, 2) := by decide +kernel
theorem dX10_then_72 : decode cX10_then 72 = .ok (.bipush 8, 2) := by decide +kernel
theorem dX10_then_74 : decode cX10_then 74 = .ok (.irem, 1) := by decide +kernel
theorem dX10_then_75 : decode cX10_then 75 = .ok (.ireturn, 1) := by decide +kernel
theorem dX10_then_76 : decode cX10_then 76 = .ok (.aload_n 0, 1) := by decide +kernel
theorem dX10_then_77 : decode cX10_then 77 = .ok (.getfield 79, 3) := by decide +kernel
theorem dX10_then_80 : decode cX10_then 80 = .ok (.getfield 242, 3) := by decide +kernel
theorem dX10_then_83 : decode cX10_then 83 = .ok (.getfield 223, 3) := by decide +kernel
theorem dX10_then_86 : decode cX10_then 86 = .ok (.iload_n 1, 1) := by decide +kernel
theorem dX10_then_87 : decode cX10_then 87 = .ok (.iaload, 1) := by decide +kernel
theorem dX10_then_88 : decode cX10_then 88 = .ok (.ireturn, 1) := by decide +kernel
theorem dX10_then_89 : decode cX10_then 89 = .ok (.aload_n 0, 1) := by decide +kernel
theorem dX10_then_90 : decode cX10_then 90 = .ok (.getfield 79, 3) := by decide +kernel
theorem dX10_then_93 : decode cX10_then 93 = .ok (.getfield 242, 3) := by decide +kernel
theorem dX10_then_96 : decode cX10_then 96 = .ok (.getfield 220, 3) := by decide +kernel
theorem dX10_then_99 : decode cX10_then 99 = .ok (.iload_n 1, 1) := by decide +kernel
theorem dX10_then_100 : decode cX10_then 100 = .ok (.iaload, 1) := by decide +kernel
theorem dX10_then_101 : decode cX10_then 101 = .ok (.iconst (-1), 1) := by decide +kernel
theorem dX10_then_102 : decode cX10_then 102 = .ok (.if_icmp .ne 7, 3) := by decide +kernel
theorem dX10_then_105 : decode cX10_then 105 = .ok (.iconst 0, 1) := by decide +kernel
theorem dX10_then_106 : decode cX10_then 106 = .ok (.goto 4, 3) := by decide +kernel
theorem dX10_then_109 : decode cX10_then 109 = .ok (.iconst 1, 1) := by decide +kernel
theorem dX10_then_110 : decode cX10_then 110 = .ok (.ireturn, 1) := by decide +kernel
theorem dX10_comes_0 : decode cX10_comes 0 = .ok (.aload_n 0, 1) := by decide +kernel
theorem dX10_comes_1 : decode cX10_comes 1 = .ok (.iload_n 1, 1) := by decide +kernel
theorem dX10_comes_2 : decode cX10_comes 2 = .ok (.invokevirtual 211, 3) := by decide +kernel
theorem dX10_comes_5 : decode cX10_comes 5 = .ok (.aload_n 0, 1) := by decide +kernel
theorem dX10_comes_6 : decode cX10_comes 6 = .ok (.getfield 79, 3) := by decide +kernel
theorem dX10_comes_9 : decode cX10_comes 9 = .ok (.aload_n 0, 1) := by decide +kernel
theorem dX10_comes_10 : decode cX10_comes 10 = .ok (.getfield 26, 3) := by decide +kernel
theorem dX10_comes_13 : decode cX10_comes 13 = .ok (.aload_n 0, 1) := by decide +kernel
theorem dX10_comes_14 : decode cX10_comes 14 = .ok (.getfield 45, 3) := by decide +kernel
theorem dX10_comes_17 : decode cX10_comes 17 = .ok (.invokevirtual 264, 3) := by decide +kernel
theorem dX10_comes_20 : decode cX10_comes 20 = .ok (.iconst 1, 1) := by decide +kernel
theorem dX10_comes_21 : decode cX10_comes 21 = .ok (.istore_n 2, 1) := by decide +kernel
theorem dX10_comes_22 : decode cX10_comes 22 = .ok (.iload_n 2, 1) := by decide +kernel
theorem dX10_comes_23 : decode cX10_comes 23 = .ok (.bipush 60, 2) := by decide +kernel
theorem dX10_comes_25 : decode cX10_comes 25 = .ok (.if_icmp .gt 31, 3) := by decide +kernel
theorem dX10_comes_28 : decode cX10_comes 28 = .ok (.aload_n 0, 1) := by decide +kernel
theorem dX10_comes_29 : decode cX10_comes 29 = .ok (.getfield 79, 3) := by decide +kernel
theorem dX10_comes_32 : decode cX10_comes 32 = .ok (.iconst 1, 1) := by decide +kernel
theorem dX10_comes_33 : decode cX10_comes 33 = .ok (.invokevirtual 268, 3) := by decide +kernel
theorem dX10_comes_36 : decode cX10_comes 36 = .ok (.aload_n 0, 1) := by decide +kernel
theorem dX10_comes_37 : decode cX10_comes 37 = .ok (.getfield 79, 3) := by decide +kernel
theorem dX10_comes_40 : decode cX10_comes 40 = .ok (.getfield 272, 3) := by decide +kernel
theorem dX10_comes_43 : decode cX10_comes 43 = .ok (.iload_n 1, 1) := by decide +kernel
theorem dX10_comes_44 : decode cX10_comes 44 = .ok (.iaload, 1) := by decide +kernel
theorem dX10_comes_45 : decode cX10_comes 45 = .ok (.ifCond .le 5, 3) := by decide +kernel
theorem dX10_comes_48 : decode cX10_comes 48 = .ok (.iload_n 2, 1) := by decide +kernel
theorem dX10_comes_49 : decode cX10_comes 49 = .ok (.ireturn, 1) := by decide +kernel
theorem dX10_comes_50 : decode cX10_comes 50 = .ok (.iinc 2 1, 3) := by decide +kernel
theorem dX10_comes_53 : decode cX10_comes 53 = .ok (.goto (-31), 3) := by decide +kernel
theorem dX10_comes_56 : decode cX10_comes 56 = .ok (.iconst (-1), 1) := by decide +kernel
theorem dX10_comes_57 : decode cX10_comes 57 = .ok (.ireturn, 1) := by decide +kernel
theorem dX10_meet_0 : decode cX10_meet 0 = .ok (.aload_n 0, 1) := by decide +kernel
theorem dX10_meet_1 : decode cX10_meet 1 = .ok (.iload_n 1, 1) := by decide +kernel
theorem dX10_meet_2 : decode cX10_meet 2 = .ok (.invokevirtual 211, 3) := by decide +kernel
theorem dX10_meet_5 : decode cX10_meet 5 = .ok (.aload_n 0, 1) := by decide +kernel
theorem dX10_meet_6 : decode cX10_meet 6 = .ok (.iload_n 2, 1) := by decide +kernel
theorem dX10_meet_7 : decode cX10_meet 7 = .ok (.invokevirtual 211, 3) := by decide +kernel
theorem dX10_meet_10 : decode cX10_meet 10 = .ok (.iload_n 1, 1) := by decide +kernel
theorem dX10_meet_11 : decode cX10_meet 11 = .ok (.iload_n 2, 1) := by decide +kernel
theorem dX10_meet_12 : decode cX10_meet 12 = .ok (.if_icmp .ne 5, 3) := by decide +kernel
theorem dX10_meet_15 : decode cX10_meet 15 = .ok (.iconst (-1), 1) := by decide +kernel
theorem dX10_meet_16 : decode cX10_meet 16 = .ok (.ireturn, 1) := by decide +kernel
theorem dX10_meet_17 : decode cX10_meet 17 = .ok (.aload_n 0, 1) := by decide +kernel
theorem dX10_meet_18 : decode cX10_meet 18 = .ok (.getfield 79, 3) := by decide +kernel
theorem dX10_meet_21 : decode cX10_meet 21 = .ok (.aload_n 0, 1) := by decide +kernel
theorem dX10_meet_22 : decode cX10_meet 22 = .ok (.getfield 26, 3) := by decide +kernel
theorem dX10_meet_25 : decode cX10_meet 25 = .ok (.aload_n 0, 1) := by decide +kernel
theorem dX10_meet_26 : decode cX10_meet 26 = .ok (.getfield 45, 3) := by decide +kernel
theorem dX10_meet_29 : decode cX10_meet 29 = .ok (.invokevirtual 264, 3) := by decide +kernel
theorem dX10_meet_32 : decode cX10_meet 32 = .ok (.iconst 0, 1) := by decide +kernel
theorem dX10_meet_33 : decode cX10_meet 33 = .ok (.istore_n 3, 1) := by decide +kernel
theorem dX10_meet_34 : decode cX10_meet 34 = .ok (.iload_n 3, 1) := by decide +kernel
theorem dX10_meet_35 : decode cX10_meet 35 = .ok (.bipush 60, 2) := by decide +kernel
theorem dX10_meet_37 : decode cX10_meet 37 = .ok (.if_icmp .gt 46, 3) := by decide +kernel
theorem dX10_meet_40 : decode cX10_meet 40 = .ok (.aload_n 0, 1) := by decide +kernel
theorem dX10_meet_41 : decode cX10_meet 41 = .ok (.getfield 79, 3) := by decide +kernel
theorem dX10_meet_44 : decode cX10_meet 44 = .ok (.getfield 242, 3) := by decide +kernel
theorem dX10_meet_47 : decode cX10_meet 47 = .ok (.getfield 208, 3) := by decide +kernel
theorem dX10_meet_50 : decode cX10_meet 50 = .ok (.iload_n 1, 1) := by decide +kernel
theorem dX10_meet_51 : decode cX10_meet 51 = .ok (.iaload, 1) := by decide +kernel
theorem dX10_meet_52 : decode cX10_meet 52 = .ok (.aload_n 0, 1) := by decide +kernel
theorem dX10_meet_53 : decode cX10_meet 53 = .ok (.getfield 79, 3) := by decide +kernel
theorem dX10_meet_56 : decode cX10_meet 56 = .ok (.getfield 242, 3) := by decide +kernel
theorem dX10_meet_59 : decode cX10_meet 59 = .ok (.getfield 208, 3) := by decide +kernel
theorem dX10_meet_62 : decode cX10_meet 62 = .ok (.iload_n 2, 1) := by decide +kernel
theorem dX10_meet_63 : decode cX10_meet 63 = .ok (.iaload, 1) := by decide +kernel
theorem dX10_meet_64 : decode cX10_meet 64 = .ok (.if_icmp .ne 5, 3) := by decide +kernel
theorem dX10_meet_67 : decode cX10_meet 67 = .ok (.iload_n 3, 1) := by decide +kernel
theorem dX10_meet_68 : decode cX10_meet 68 = .ok (.ireturn, 1) := by decide +kernel
theorem dX10_meet_69 : decode cX10_meet 69 = .ok (.aload_n 0, 1) := by decide +kernel
theorem dX10_meet_70 : decode cX10_meet 70 = .ok (.getfield 79, 3) := by decide +kernel
theorem dX10_meet_73 : decode cX10_meet 73 = .ok (.iconst 1, 1) := by decide +kernel
theorem dX10_meet_74 : decode cX10_meet 74 = .ok (.invokevirtual 268, 3) := by decide +kernel
theorem dX10_meet_77 : decode cX10_meet 77 = .ok (.iinc 3 1, 3) := by decide +kernel
theorem dX10_meet_80 : decode cX10_meet 80 = .ok (.goto (-46), 3) := by decide +kernel
theorem dX10_meet_83 : decode cX10_meet 83 = .ok (.iconst (-1), 1) := by decide +kernel
theorem dX10_meet_84 : decode cX10_meet 84 = .ok (.ireturn, 1) := by decide +kernel
theorem dX10_later_0 : decode cX10_later 0 = .ok (.aload_n 0, 1) := by decide +kernel
theorem dX10_later_1 : decode cX10_later 1 = .ok (.iload_n 2, 1) := by decide +kernel
theorem dX10_later_2 : decode cX10_later 2 = .ok (.iconst 3, 1) := by decide +kernel
theorem dX10_later_3 : decode cX10_later 3 = .ok (.invokevirtual 140, 3) := by decide +kernel
theorem dX10_later_6 : decode cX10_later 6 = .ok (.aload_n 0, 1) := by decide +kernel
theorem dX10_later_7 : decode cX10_later 7 = .ok (.iload_n 1, 1) := by decide +kernel
theorem dX10_later_8 : decode cX10_later 8 = .ok (.iconst 0, 1) := by decide +kernel
theorem dX10_later_9 : decode cX10_later 9 = .ok (.bipush 60, 2) := by decide +kernel
theorem dX10_later_11 : decode cX10_later 11 = .ok (.invokevirtual 260, 3) := by decide +kernel
theorem dX10_later_14 : decode cX10_later 14 = .ok (.aload_n 0, 1) := by decide +kernel
theorem dX10_later_15 : decode cX10_later 15 = .ok (.iload_n 1, 1) := by decide +kernel
theorem dX10_later_16 : decode cX10_later 16 = .ok (.invokevirtual 239, 3) := by decide +kernel
theorem dX10_later_19 : decode cX10_later 19 = .ok (.iload_n 2, 1) := by decide +kernel
theorem dX10_later_20 : decode cX10_later 20 = .ok (.iconst 2, 1) := by decide +kernel
theorem dX10_later_21 : decode cX10_later 21 = .ok (.if_icmp .ne 15, 3) := by decide +kernel
theorem dX10_later_24 : decode cX10_later 24 = .ok (.aload_n 0, 1) := by decide +kernel
theorem dX10_later_25 : decode cX10_later 25 = .ok (.aload_n 0, 1) := by decide +kernel
theorem dX10_later_26 : decode cX10_later 26 = .ok (.getfield 79, 3) := by decide +kernel
theorem dX10_later_29 : decode cX10_later 29 = .ok (.getfield 242, 3) := by decide +kernel
theorem dX10_later_32 : decode cX10_later 32 = .ok (.invokevirtual 171, 3) := by decide +kernel
theorem dX10_later_35 : decode cX10_later 35 = .ok (.ireturn, 1) := by decide +kernel
theorem dX10_later_36 : decode cX10_later 36 = .ok (.aload_n 0, 1) := by decide +kernel
theorem dX10_later_37 : decode cX10_later 37 = .ok (.getfield 79, 3) := by decide +kernel
theorem dX10_later_40 : decode cX10_later 40 = .ok (.getfield 242, 3) := by decide +kernel
theorem dX10_later_43 : decode cX10_later 43 = .ok (.invokevirtual 275, 3) := by decide +kernel
theorem dX10_later_46 : decode cX10_later 46 = .ok (.istore_n 3, 1) := by decide +kernel
theorem dX10_later_47 : decode cX10_later 47 = .ok (.iload_n 2, 1) := by decide +kernel
theorem dX10_later_48 : decode cX10_later 48 = .ok (.ifCond .ne 17, 3) := by decide +kernel
theorem dX10_later_51 : decode cX10_later 51 = .ok (.aload_n 0, 1) := by decide +kernel
theorem dX10_later_52 : decode cX10_later 52 = .ok (.getfield 79, 3) := by decide +kernel
theorem dX10_later_55 : decode cX10_later 55 = .ok (.getfield 242, 3) := by decide +kernel
theorem dX10_later_58 : decode cX10_later 58 = .ok (.iload_n 3, 1) := by decide +kernel
theorem dX10_later_59 : decode cX10_later 59 = .ok (.invokevirtual 278, 3) := by decide +kernel
theorem dX10_later_62 : decode cX10_later 62 = .ok (.goto 7, 3) := by decide +kernel
theorem dX10_later_65 : decode cX10_later 65 = .ok (.iload_n 3, 1) := by decide +kernel
theorem dX10_later_66 : decode cX10_later 66 = .ok (.invokestatic 214, 3) := by decide +kernel
theorem dX10_later_69 : decode cX10_later 69 = .ok (.ireturn, 1) := by decide +kernel
theorem dX10_clear_0 : decode cX10_clear 0 = .ok (.aload_n 0, 1) := by decide +kernel
theorem dX10_clear_1 : decode cX10_clear 1 = .ok (.iload_n 1, 1) := by decide +kernel
theorem dX10_clear_2 : decode cX10_clear 2 = .ok (.invokevirtual 233, 3) := by decide +kernel
theorem dX10_clear_5 : decode cX10_clear 5 = .ok (.istore_n 2, 1) := by decide +kernel
theorem dX10_clear_6 : decode cX10_clear 6 = .ok (.aload_n 0, 1) := by decide +kernel
theorem dX10_clear_7 : decode cX10_clear 7 = .ok (.getfield 79, 3) := by decide +kernel
theorem dX10_clear_10 : decode cX10_clear 10 = .ok (.aload_n 0, 1) := by decide +kernel
theorem dX10_clear_11 : decode cX10_clear 11 = .ok (.getfield 26, 3) := by decide +kernel
theorem dX10_clear_14 : decode cX10_clear 14 = .ok (.aload_n 0, 1) := by decide +kernel
theorem dX10_clear_15 : decode cX10_clear 15 = .ok (.getfield 45, 3) := by decide +kernel
theorem dX10_clear_18 : decode cX10_clear 18 = .ok (.invokevirtual 264, 3) := by decide +kernel
theorem dX10_clear_21 : decode cX10_clear 21 = .ok (.iconst 0, 1) := by decide +kernel
theorem dX10_clear_22 : decode cX10_clear 22 = .ok (.istore_n 3, 1) := by decide +kernel
theorem dX10_clear_23 : decode cX10_clear 23 = .ok (.iload_n 3, 1) := by decide +kernel
theorem dX10_clear_24 : decode cX10_clear 24 = .ok (.bipush 60, 2) := by decide +kernel
theorem dX10_clear_26 : decode cX10_clear 26 = .ok (.if_icmp .gt 34, 3) := by decide +kernel
theorem dX10_clear_29 : decode cX10_clear 29 = .ok (.aload_n 0, 1) := by decide +kernel
theorem dX10_clear_30 : decode cX10_clear 30 = .ok (.getfield 79, 3) := by decide +kernel
theorem dX10_clear_33 : decode cX10_clear 33 = .ok (.getfield 242, 3) := by decide +kernel
theorem dX10_clear_36 : decode cX10_clear 36 = .ok (.getfield 205, 3) := by decide +kernel
theorem dX10_clear_39 : decode cX10_clear 39 = .ok (.iload_n 2, 1) := by decide +kernel
theorem dX10_clear_40 : decode cX10_clear 40 = .ok (.iaload, 1) := by decide +kernel
theorem dX10_clear_41 : decode cX10_clear 41 = .ok (.ifCond .ne 5, 3) := by decide +kernel
theorem dX10_clear_44 : decode cX10_clear 44 = .ok (.iload_n 3, 1) := by decide +kernel
theorem dX10_clear_45 : decode cX10_clear 45 = .ok (.ireturn, 1) := by decide +kernel
theorem dX10_clear_46 : decode cX10_clear 46 = .ok (.aload_n 0, 1) := by decide +kernel
theorem dX10_clear_47 : decode cX10_clear 47 = .ok (.getfield 79, 3) := by decide +kernel
theorem dX10_clear_50 : decode cX10_clear 50 = .ok (.iconst 1, 1) := by decide +kernel
theorem dX10_clear_51 : decode cX10_clear 51 = .ok (.invokevirtual 268, 3) := by decide +kernel
theorem dX10_clear_54 : decode cX10_clear 54 = .ok (.iinc 3 1, 3) := by decide +kernel
theorem dX10_clear_57 : decode cX10_clear 57 = .ok (.goto (-34), 3) := by decide +kernel
theorem dX10_clear_60 : decode cX10_clear 60 = .ok (.iconst (-1), 1) := by decide +kernel
theorem dX10_clear_61 : decode cX10_clear 61 = .ok (.ireturn, 1) := by decide +kernel
theorem dX10_ahead_0 : decode cX10_ahead 0 = .ok (.aload_n 0, 1) := by decide +kernel
theorem dX10_ahead_1 : decode cX10_ahead 1 = .ok (.iload_n 2, 1) := by decide +kernel
theorem dX10_ahead_2 : decode cX10_ahead 2 = .ok (.iconst 2, 1) := by decide +kernel
theorem dX10_ahead_3 : decode cX10_ahead 3 = .ok (.invokevirtual 140, 3) := by decide +kernel
theorem dX10_ahead_6 : decode cX10_ahead 6 = .ok (.aload_n 0, 1) := by decide +kernel
theorem dX10_ahead_7 : decode cX10_ahead 7 = .ok (.iload_n 1, 1) := by decide +kernel
theorem dX10_ahead_8 : decode cX10_ahead 8 = .ok (.iconst 0, 1) := by decide +kernel
theorem dX10_ahead_9 : decode cX10_ahead 9 = .ok (.bipush 60, 2) := by decide +kernel
theorem dX10_ahead_11 : decode cX10_ahead 11 = .ok (.invokevirtual 260, 3) := by decide +kernel
theorem dX10_ahead_14 : decode cX10_ahead 14 = .ok (.aload_n 0, 1) := by decide +kernel
theorem dX10_ahead_15 : decode cX10_ahead 15 = .ok (.iload_n 1, 1) := by decide +kernel
theorem dX10_ahead_16 : decode cX10_ahead 16 = .ok (.invokevirtual 239, 3) := by decide +kernel
theorem dX10_ahead_19 : decode cX10_ahead 19 = .ok (.iload_n 2, 1) := by decide +kernel
theorem dX10_ahead_20 : decode cX10_ahead 20 = .ok (.ifCond .ne 25, 3) := by decide +kernel
theorem dX10_ahead_23 : decode cX10_ahead 23 = .ok (.iconst 1, 1) := by decide +kernel
theorem dX10_ahead_24 : decode cX10_ahead 24 = .ok (.aload_n 0, 1) := by decide +kernel
theorem dX10_ahead_25 : decode cX10_ahead 25 = .ok (.getfield 26, 3) := by decide +kernel
theorem dX10_ahead_28 : decode cX10_ahead 28 = .ok (.getfield 147, 3) := by decide +kernel
theorem dX10_ahead_31 : decode cX10_ahead 31 = .ok (.ishl, 1) := by decide +kernel
theorem dX10_ahead_32 : decode cX10_ahead 32 = .ok (.iconst 1, 1) := by decide +kernel
theorem dX10_ahead_33 : decode cX10_ahead 33 = .ok (.isub, 1) := by decide +kernel
theorem dX10_ahead_34 : decode cX10_ahead 34 = .ok (.aload_n 0, 1) := by decide +kernel
theorem dX10_ahead_35 : decode cX10_ahead 35 = .ok (.getfield 79, 3) := by decide +kernel
theorem dX10_ahead_38 : decode cX10_ahead 38 = .ok (.getfield 281, 3) := by decide +kernel
theorem dX10_ahead_41 : decode cX10_ahead 41 = .ok (.iconst (-1), 1) := by decide +kernel
theorem dX10_ahead_42 : decode cX10_ahead 42 = .ok (.ixor, 1) := by decide +kernel
theorem dX10_ahead_43 : decode cX10_ahead 43 = .ok (.iand, 1) := by decide +kernel
theorem dX10_ahead_44 : decode cX10_ahead 44 = .ok (.ireturn, 1) := by decide +kernel
theorem dX10_ahead_45 : decode cX10_ahead 45 = .ok (.aload_n 0, 1) := by decide +kernel
theorem dX10_ahead_46 : decode cX10_ahead 46 = .ok (.getfield 79, 3) := by decide +kernel
theorem dX10_ahead_49 : decode cX10_ahead 49 = .ok (.getfield 242, 3) := by decide +kernel
theorem dX10_ahead_52 : decode cX10_ahead 52 = .ok (.invokevirtual 284, 3) := by decide +kernel
theorem dX10_ahead_55 : decode cX10_ahead 55 = .ok (.invokestatic 214, 3) := by decide +kernel
theorem dX10_ahead_58 : decode cX10_ahead 58 = .ok (.ireturn, 1) := by decide +kernel
theorem dX10_gone_0 : decode cX10_gone 0 = .ok (.aload_n 0, 1) := by decide +kernel
theorem dX10_gone_1 : decode cX10_gone 1 = .ok (.iload_n 1, 1) := by decide +kernel
theorem dX10_gone_2 : decode cX10_gone 2 = .ok (.invokevirtual 211, 3) := by decide +kernel
theorem dX10_gone_5 : decode cX10_gone 5 = .ok (.aload_n 0, 1) := by decide +kernel
theorem dX10_gone_6 : decode cX10_gone 6 = .ok (.iload_n 2, 1) := by decide +kernel
theorem dX10_gone_7 : decode cX10_gone 7 = .ok (.iconst 0, 1) := by decide +kernel
theorem dX10_gone_8 : decode cX10_gone 8 = .ok (.bipush 60, 2) := by decide +kernel
theorem dX10_gone_10 : decode cX10_gone 10 = .ok (.invokevirtual 260, 3) := by decide +kernel
theorem dX10_gone_13 : decode cX10_gone 13 = .ok (.aload_n 0, 1) := by decide +kernel
theorem dX10_gone_14 : decode cX10_gone 14 = .ok (.iload_n 2, 1) := by decide +kernel
theorem dX10_gone_15 : decode cX10_gone 15 = .ok (.invokevirtual 239, 3) := by decide +kernel
theorem dX10_gone_18 : decode cX10_gone 18 = .ok (.aload_n 0, 1) := by decide +kernel
theorem dX10_gone_19 : decode cX10_gone 19 = .ok (.getfield 79, 3) := by decide +kernel
theorem dX10_gone_22 : decode cX10_gone 22 = .ok (.getfield 287, 3) := by decide +kernel
theorem dX10_gone_25 : decode cX10_gone 25 = .ok (.iload_n 1, 1) := by decide +kernel
theorem dX10_gone_26 : decode cX10_gone 26 = .ok (.iaload, 1) := by decide +kernel
theorem dX10_gone_27 : decode cX10_gone 27 = .ok (.ireturn, 1) := by decide +kernel
theorem dX10_way_0 : decode cX10_way 0 = .ok (.aload_n 0, 1) := by decide +kernel
theorem dX10_way_1 : decode cX10_way 1 = .ok (.iload_n 1, 1) := by decide +kernel
theorem dX10_way_2 : decode cX10_way 2 = .ok (.invokevirtual 233, 3) := by decide +kernel
theorem dX10_way_5 : decode cX10_way 5 = .ok (.istore 4, 2) := by decide +kernel
theorem dX10_way_7 : decode cX10_way 7 = .ok (.aload_n 0, 1) := by decide +kernel
theorem dX10_way_8 : decode cX10_way 8 = .ok (.iload_n 2, 1) := by decide +kernel
theorem dX10_way_9 : decode cX10_way 9 = .ok (.invokevirtual 233, 3) := by decide +kernel
theorem dX10_way_12 : decode cX10_way 12 = .ok (.istore 5, 2) := by decide +kernel
theorem dX10_way_14 : decode cX10_way 14 = .ok (.aload_n 0, 1) := by decide +kernel
theorem dX10_way_15 : decode cX10_way 15 = .ok (.iload_n 3, 1) := by decide +kernel
theorem dX10_way_16 : decode cX10_way 16 = .ok (.iconst 4, 1) := by decide +kernel
theorem dX10_way_17 : decode cX10_way 17 = .ok (.invokevirtual 140, 3) := by decide +kernel
theorem dX10_way_20 : decode cX10_way 20 = .ok (.iload_n 3, 1) := by decide +kernel
theorem dX10_way_21 : decode cX10_way 21 = .ok (.tableswitch 88 0 2 #[27, 39, 76], 27) := by decide +kernel
theorem dX10_way_48 : decode cX10_way 48 = .ok (.aload_n 0, 1) := by decide +kernel
theorem dX10_way_49 : decode cX10_way 49 = .ok (.invokevirtual 153, 3) := by decide +kernel
theorem dX10_way_52 : decode cX10_way 52 = .ok (.iload 4, 2) := by decide +kernel
theorem dX10_way_54 : decode cX10_way 54 = .ok (.iload 5, 2) := by decide +kernel
theorem dX10_way_56 : decode cX10_way 56 = .ok (.invokevirtual 226, 3) := by decide +kernel
theorem dX10_way_59 : decode cX10_way 59 = .ok (.ireturn, 1) := by decide +kernel
theorem dX10_way_60 : decode cX10_way 60 = .ok (.aload_n 0, 1) := by decide +kernel
theorem dX10_way_61 : decode cX10_way 61 = .ok (.invokevirtual 153, 3) := by decide +kernel
theorem dX10_way_64 : decode cX10_way 64 = .ok (.iload 4, 2) := by decide +kernel
theorem dX10_way_66 : decode cX10_way 66 = .ok (.iload 5, 2) := by decide +kernel
theorem dX10_way_68 : decode cX10_way 68 = .ok (.invokevirtual 226, 3) := by decide +kernel
theorem dX10_way_71 : decode cX10_way 71 = .ok (.istore 6, 2) := by decide +kernel
theorem dX10_way_73 : decode cX10_way 73 = .ok (.iload 6, 2) := by decide +kernel
theorem dX10_way_75 : decode cX10_way 75 = .ok (.ifCond .le 20, 3) := by decide +kernel
theorem dX10_way_78 : decode cX10_way 78 = .ok (.aload_n 0, 1) := by decide +kernel
theorem dX10_way_79 : decode cX10_way 79 = .ok (.getfield 86, 3) := by decide +kernel
theorem dX10_way_82 : decode cX10_way 82 = .ok (.iload 4, 2) := by decide +kernel
theorem dX10_way_84 : decode cX10_way 84 = .ok (.iload 6, 2) := by decide +kernel
theorem dX10_way_86 : decode cX10_way 86 = .ok (.invokevirtual 290, 3) := by decide +kernel
theorem dX10_way_89 : decode cX10_way 89 = .ok (.invokestatic 214, 3) := by decide +kernel
theorem dX10_way_92 : decode cX10_way 92 = .ok (.goto 4, 3) := by decide +kernel
theorem dX10_way_95 : decode cX10_way 95 = .ok (.iconst (-1), 1) := by decide +kernel
theorem dX10_way_96 : decode cX10_way 96 = .ok (.ireturn, 1) := by decide +kernel
theorem dX10_way_97 : decode cX10_way 97 = .ok (.aload_n 0, 1) := by decide +kernel
theorem dX10_way_98 : decode cX10_way 98 = .ok (.invokevirtual 153, 3) := by decide +kernel
theorem dX10_way_101 : decode cX10_way 101 = .ok (.iload 4, 2) := by decide +kernel
theorem dX10_way_103 : decode cX10_way 103 = .ok (.iload 5, 2) := by decide +kernel
theorem dX10_way_105 : decode cX10_way 105 = .ok (.invokevirtual 293, 3) := by decide +kernel
theorem dX10_way_108 : decode cX10_way 108 = .ok (.ireturn, 1) := by decide +kernel
theorem dX10_way_109 : decode cX10_way 109 = .ok (.aload_n 0, 1) := by decide +kernel
theorem dX10_way_110 : decode cX10_way 110 = .ok (.invokevirtual 153, 3) := by decide +kernel
theorem dX10_way_113 : decode cX10_way 113 = .ok (.iload 4, 2) := by decide +kernel
theorem dX10_way_115 : decode cX10_way 115 = .ok (.iload 5, 2) := by decide +kernel
theorem dX10_way_117 : decode cX10_way 117 = .ok (.invokevirtual 296, 3) := by decide +kernel
theorem dX10_way_120 : decode cX10_way 120 = .ok (.ireturn, 1) := by decide +kernel
theorem dX10_reached_0 : decode cX10_reached 0 = .ok (.aload_n 0, 1) := by decide +kernel
theorem dX10_reached_1 : decode cX10_reached 1 = .ok (.iload_n 1, 1) := by decide +kernel
theorem dX10_reached_2 : decode cX10_reached 2 = .ok (.invokevirtual 233, 3) := by decide +kernel
theorem dX10_reached_5 : decode cX10_reached 5 = .ok (.istore_n 3, 1) := by decide +kernel
theorem dX10_reached_6 : decode cX10_reached 6 = .ok (.aload_n 0, 1) := by decide +kernel
theorem dX10_reached_7 : decode cX10_reached 7 = .ok (.iload_n 2, 1) := by decide +kernel
theorem dX10_reached_8 : decode cX10_reached 8 = .ok (.invokevirtual 185, 3) := by decide +kernel
theorem dX10_reached_11 : decode cX10_reached 11 = .ok (.aload_n 0, 1) := by decide +kernel
theorem dX10_reached_12 : decode cX10_reached 12 = .ok (.invokevirtual 153, 3) := by decide +kernel
theorem dX10_reached_15 : decode cX10_reached 15 = .ok (.pop, 1) := by decide +kernel
theorem dX10_reached_16 : decode cX10_reached 16 = .ok (.aload_n 0, 1) := by decide +kernel
theorem dX10_reached_17 : decode cX10_reached 17 = .ok (.getfield 86, 3) := by decide +kernel
theorem dX10_reached_20 : decode cX10_reached 20 = .ok (.iload_n 3, 1) := by decide +kernel
theorem dX10_reached_21 : decode cX10_reached 21 = .ok (.invokestatic 248, 3) := by decide +kernel
theorem dX10_reached_24 : decode cX10_reached 24 = .ok (.aload_n 0, 1) := by decide +kernel
theorem dX10_reached_25 : decode cX10_reached 25 = .ok (.getfield 86, 3) := by decide +kernel
theorem dX10_reached_28 : decode cX10_reached 28 = .ok (.getfield 299, 3) := by decide +kernel
theorem dX10_reached_31 : decode cX10_reached 31 = .ok (.invokevirtual 300, 3) := by decide +kernel
theorem dX10_reached_34 : decode cX10_reached 34 = .ok (.iload_n 2, 1) := by decide +kernel
theorem dX10_reached_35 : decode cX10_reached 35 = .ok (.invokestatic 194, 3) := by decide +kernel
theorem dX10_reached_38 : decode cX10_reached 38 = .ok (.ireturn, 1) := by decide +kernel
theorem dX10_farthest_0 : decode cX10_farthest 0 = .ok (.aload_n 0, 1) := by decide +kernel
theorem dX10_farthest_1 : decode cX10_farthest 1 = .ok (.iload_n 1, 1) := by decide +kernel
theorem dX10_farthest_2 : decode cX10_farthest 2 = .ok (.invokevirtual 233, 3) := by decide +kernel
theorem dX10_farthest_5 : decode cX10_farthest 5 = .ok (.istore_n 3, 1) := by decide +kernel
theorem dX10_farthest_6 : decode cX10_farthest 6 = .ok (.aload_n 0, 1) := by decide +kernel
theorem dX10_farthest_7 : decode cX10_farthest 7 = .ok (.iload_n 2, 1) := by decide +kernel
theorem dX10_farthest_8 : decode cX10_farthest 8 = .ok (.iconst 2, 1) := by decide +kernel
theorem dX10_farthest_9 : decode cX10_farthest 9 = .ok (.invokevirtual 140, 3) := by decide +kernel
theorem dX10_farthest_12 : decode cX10_farthest 12 = .ok (.aload_n 0, 1) := by decide +kernel
theorem dX10_farthest_13 : decode cX10_farthest 13 = .ok (.invokevirtual 153, 3) := by decide +kernel
theorem dX10_farthest_16 : decode cX10_farthest 16 = .ok (.iload_n 3, 1) := by decide +kernel
theorem dX10_farthest_17 : decode cX10_farthest 17 = .ok (.invokevirtual 304, 3) := by decide +kernel
theorem dX10_farthest_20 : decode cX10_farthest 20 = .ok (.istore 4, 2) := by decide +kernel
theorem dX10_farthest_22 : decode cX10_farthest 22 = .ok (.iload_n 2, 1) := by decide +kernel
theorem dX10_farthest_23 : decode cX10_farthest 23 = .ok (.ifCond .ne 22, 3) := by decide +kernel
theorem dX10_farthest_26 : decode cX10_farthest 26 = .ok (.aload_n 0, 1) := by decide +kernel
theorem dX10_farthest_27 : decode cX10_farthest 27 = .ok (.getfield 86, 3) := by decide +kernel
theorem dX10_farthest_30 : decode cX10_farthest 30 = .ok (.getfield 307, 3) := by decide +kernel
theorem dX10_farthest_33 : decode cX10_farthest 33 = .ok (.iload 4, 2) := by decide +kernel
theorem dX10_farthest_35 : decode cX10_farthest 35 = .ok (.laload, 1) := by decide +kernel
theorem dX10_farthest_36 : decode cX10_farthest 36 = .ok (.invokestatic 310, 3) := by decide +kernel
theorem dX10_farthest_39 : decode cX10_farthest 39 = .ok (.invokestatic 214, 3) := by decide +kernel
theorem dX10_farthest_42 : decode cX10_farthest 42 = .ok (.goto 5, 3) := by decide +kernel
theorem dX10_farthest_45 : decode cX10_farthest 45 = .ok (.iload 4, 2) := by decide +kernel
theorem dX10_farthest_47 : decode cX10_farthest 47 = .ok (.ireturn, 1) := by decide +kernel
theorem dX10_ways_0 : decode cX10_ways 0 = .ok (.aload_n 0, 1) := by decide +kernel
theorem dX10_ways_1 : decode cX10_ways 1 = .ok (.iload_n 1, 1) := by decide +kernel
theorem dX10_ways_2 : decode cX10_ways 2 = .ok (.invokevirtual 233, 3) := by decide +kernel
theorem dX10_ways_5 : decode cX10_ways 5 = .ok (.istore_n 3, 1) := by decide +kernel
theorem dX10_ways_6 : decode cX10_ways 6 = .ok (.aload_n 0, 1) := by decide +kernel
theorem dX10_ways_7 : decode cX10_ways 7 = .ok (.iload_n 2, 1) := by decide +kernel
theorem dX10_ways_8 : decode cX10_ways 8 = .ok (.invokevirtual 233, 3) := by decide +kernel
theorem dX10_ways_11 : decode cX10_ways 11 = .ok (.istore 4, 2) := by decide +kernel
theorem dX10_ways_13 : decode cX10_ways 13 = .ok (.aload_n 0, 1) := by decide +kernel
theorem dX10_ways_14 : decode cX10_ways 14 = .ok (.invokevirtual 153, 3) := by decide +kernel
theorem dX10_ways_17 : decode cX10_ways 17 = .ok (.iload_n 3, 1) := by decide +kernel
theorem dX10_ways_18 : decode cX10_ways 18 = .ok (.iload 4, 2) := by decide +kernel
theorem dX10_ways_20 : decode cX10_ways 20 = .ok (.invokevirtual 313, 3) := by decide +kernel
theorem dX10_ways_23 : decode cX10_ways 23 = .ok (.ireturn, 1) := by decide +kernel
theorem dX10_near_0 : decode cX10_near 0 = .ok (.aload_n 0, 1) := by decide +kernel
theorem dX10_near_1 : decode cX10_near 1 = .ok (.iload_n 1, 1) := by decide +kernel
theorem dX10_near_2 : decode cX10_near 2 = .ok (.invokevirtual 211, 3) := by decide +kernel
theorem dX10_near_5 : decode cX10_near 5 = .ok (.aload_n 0, 1) := by decide +kernel
theorem dX10_near_6 : decode cX10_near 6 = .ok (.invokevirtual 153, 3) := by decide +kernel
theorem dX10_near_9 : decode cX10_near 9 = .ok (.pop, 1) := by decide +kernel
theorem dX10_near_10 : decode cX10_near 10 = .ok (.iconst (-1), 1) := by decide +kernel
theorem dX10_near_11 : decode cX10_near 11 = .ok (.istore_n 2, 1) := by decide +kernel
theorem dX10_near_12 : decode cX10_near 12 = .ok (.bipush 48, 2) := by decide +kernel
theorem dX10_near_14 : decode cX10_near 14 = .ok (.istore_n 3, 1) := by decide +kernel
theorem dX10_near_15 : decode cX10_near 15 = .ok (.iconst 0, 1) := by decide +kernel
theorem dX10_near_16 : decode cX10_near 16 = .ok (.istore 4, 2) := by decide +kernel
theorem dX10_near_18 : decode cX10_near 18 = .ok (.iload 4, 2) := by decide +kernel
theorem dX10_near_20 : decode cX10_near 20 = .ok (.aload_n 0, 1) := by decide +kernel
theorem dX10_near_21 : decode cX10_near 21 = .ok (.getfield 26, 3) := by decide +kernel
theorem dX10_near_24 : decode cX10_near 24 = .ok (.getfield 147, 3) := by decide +kernel
theorem dX10_near_27 : decode cX10_near 27 = .ok (.if_icmp .ge 65, 3) := by decide +kernel
theorem dX10_near_30 : decode cX10_near 30 = .ok (.iload 4, 2) := by decide +kernel
theorem dX10_near_32 : decode cX10_near 32 = .ok (.iload_n 1, 1) := by decide +kernel
theorem dX10_near_33 : decode cX10_near 33 = .ok (.if_icmp .ne 7, 3) := by decide +kernel
theorem dX10_near_36 : decode cX10_near 36 = .ok (.iconst (-1), 1) := by decide +kernel
theorem dX10_near_37 : decode cX10_near 37 = .ok (.goto 29, 3) := by decide +kernel
theorem dX10_near_40 : decode cX10_near 40 = .ok (.aload_n 0, 1) := by decide +kernel
theorem dX10_near_41 : decode cX10_near 41 = .ok (.getfield 86, 3) := by decide +kernel
theorem dX10_near_44 : decode cX10_near 44 = .ok (.aload_n 0, 1) := by decide +kernel
theorem dX10_near_45 : decode cX10_near 45 = .ok (.getfield 45, 3) := by decide +kernel
theorem dX10_near_48 : decode cX10_near 48 = .ok (.getfield 208, 3) := by decide +kernel
theorem dX10_near_51 : decode cX10_near 51 = .ok (.iload_n 1, 1) := by decide +kernel
theorem dX10_near_52 : decode cX10_near 52 = .ok (.iaload, 1) := by decide +kernel
theorem dX10_near_53 : decode cX10_near 53 = .ok (.aload_n 0, 1) := by decide +kernel
theorem dX10_near_54 : decode cX10_near 54 = .ok (.getfield 45, 3) := by decide +kernel
theorem dX10_near_57 : decode cX10_near 57 = .ok (.getfield 208, 3) := by decide +kernel
theorem dX10_near_60 : decode cX10_near 60 = .ok (.iload 4, 2) := by decide +kernel
theorem dX10_near_62 : decode cX10_near 62 = .ok (.iaload, 1) := by decide +kernel
theorem dX10_near_63 : decode cX10_near 63 = .ok (.invokevirtual 226, 3) := by decide +kernel
theorem dX10_near_66 : decode cX10_near 66 = .ok (.istore 5, 2) := by decide +kernel
theorem dX10_near_68 : decode cX10_near 68 = .ok (.iload 5, 2) := by decide +kernel
theorem dX10_near_70 : decode cX10_near 70 = .ok (.iconst (-1), 1) := by decide +kernel
theorem dX10_near_71 : decode cX10_near 71 = .ok (.if_icmp .eq 15, 3) := by decide +kernel
theorem dX10_near_74 : decode cX10_near 74 = .ok (.iload 5, 2) := by decide +kernel
theorem dX10_near_76 : decode cX10_near 76 = .ok (.iload_n 3, 1) := by decide +kernel
theorem dX10_near_77 : decode cX10_near 77 = .ok (.if_icmp .ge 9, 3) := by decide +kernel
theorem dX10_near_80 : decode cX10_near 80 = .ok (.iload 5, 2) := by decide +kernel
theorem dX10_near_82 : decode cX10_near 82 = .ok (.istore_n 3, 1) := by decide +kernel
theorem dX10_near_83 : decode cX10_near 83 = .ok (.iload 4, 2) := by decide +kernel
theorem dX10_near_85 : decode cX10_near 85 = .ok (.istore_n 2, 1) := by decide +kernel
theorem dX10_near_86 : decode cX10_near 86 = .ok (.iinc 4 1, 3) := by decide +kernel
theorem dX10_near_89 : decode cX10_near 89 = .ok (.goto (-71), 3) := by decide +kernel
theorem dX10_near_92 : decode cX10_near 92 = .ok (.iload_n 2, 1) := by decide +kernel
theorem dX10_near_93 : decode cX10_near 93 = .ok (.ireturn, 1) := by decide +kernel
theorem dX10_gather_0 : decode cX10_gather 0 = .ok (.aload_n 0, 1) := by decide +kernel
theorem dX10_gather_1 : decode cX10_gather 1 = .ok (.iload_n 1, 1) := by decide +kernel
theorem dX10_gather_2 : decode cX10_gather 2 = .ok (.iconst 2, 1) := by decide +kernel
theorem dX10_gather_3 : decode cX10_gather 3 = .ok (.invokevirtual 140, 3) := by decide +kernel
theorem dX10_gather_6 : decode cX10_gather 6 = .ok (.aload_n 0, 1) := by decide +kernel
theorem dX10_gather_7 : decode cX10_gather 7 = .ok (.getfield 26, 3) := by decide +kernel
theorem dX10_gather_10 : decode cX10_gather 10 = .ok (.getfield 147, 3) := by decide +kernel
theorem dX10_gather_13 : decode cX10_gather 13 = .ok (.ifCond .ne 5, 3) := by decide +kernel
theorem dX10_gather_16 : decode cX10_gather 16 = .ok (.iconst (-1), 1) := by decide +kernel
theorem dX10_gather_17 : decode cX10_gather 17 = .ok (.ireturn, 1) := by decide +kernel
theorem dX10_gather_18 : decode cX10_gather 18 = .ok (.aload_n 0, 1) := by decide +kernel
theorem dX10_gather_19 : decode cX10_gather 19 = .ok (.invokevirtual 153, 3) := by decide +kernel
theorem dX10_gather_22 : decode cX10_gather 22 = .ok (.pop, 1) := by decide +kernel
theorem dX10_gather_23 : decode cX10_gather 23 = .ok (.iconst (-1), 1) := by decide +kernel
theorem dX10_gather_24 : decode cX10_gather 24 = .ok (.istore_n 2, 1) := by decide +kernel
theorem dX10_gather_25 : decode cX10_gather 25 = .ok (.iconst 0, 1) := by decide +kernel
theorem dX10_gather_26 : decode cX10_gather 26 = .ok (.istore_n 3, 1) := by decide +kernel
theorem dX10_gather_27 : decode cX10_gather 27 = .ok (.iconst 0, 1) := by decide +kernel
theorem dX10_gather_28 : decode cX10_gather 28 = .ok (.istore 4, 2) := by decide +kernel
theorem dX10_gather_30 : decode cX10_gather 30 = .ok (.iconst 0, 1) := by decide +kernel
theorem dX10_gather_31 : decode cX10_gather 31 = .ok (.istore 5, 2) := by decide +kernel
theorem dX10_gather_33 : decode cX10_gather 33 = .ok (.iload 5, 2) := by decide +kernel
theorem dX10_gather_35 : decode cX10_gather 35 = .ok (.bipush 48, 2) := by decide +kernel
theorem dX10_gather_37 : decode cX10_gather 37 = .ok (.if_icmp .ge 84, 3) := by decide +kernel
theorem dX10_gather_40 : decode cX10_gather 40 = .ok (.aload_n 0, 1) := by decide +kernel
theorem dX10_gather_41 : decode cX10_gather 41 = .ok (.getfield 26, 3) := by decide +kernel
theorem dX10_gather_44 : decode cX10_gather 44 = .ok (.iload 5, 2) := by decide +kernel
theorem dX10_gather_46 : decode cX10_gather 46 = .ok (.invokevirtual 252, 3) := by decide +kernel
theorem dX10_gather_49 : decode cX10_gather 49 = .ok (.ifCond .eq 12, 3) := by decide +kernel
theorem dX10_gather_52 : decode cX10_gather 52 = .ok (.aload_n 0, 1) := by decide +kernel
theorem dX10_gather_53 : decode cX10_gather 53 = .ok (.iload 5, 2) := by decide +kernel
theorem dX10_gather_55 : decode cX10_gather 55 = .ok (.invokevirtual 316, 3) := by decide +kernel
theorem dX10_gather_58 : decode cX10_gather 58 = .ok (.goto 4, 3) := by decide +kernel
theorem dX10_gather_61 : decode cX10_gather 61 = .ok (.iconst 0, 1) := by decide +kernel
theorem dX10_gather_62 : decode cX10_gather 62 = .ok (.istore 6, 2) := by decide +kernel
theorem dX10_gather_64 : decode cX10_gather 64 = .ok (.iload 6, 2) := by decide +kernel
theorem dX10_gather_66 : decode cX10_gather 66 = .ok (.ifCond .le 12, 3) := by decide +kernel
theorem dX10_gather_69 : decode cX10_gather 69 = .ok (.aload_n 0, 1) := by decide +kernel
theorem dX10_gather_70 : decode cX10_gather 70 = .ok (.iload 5, 2) := by decide +kernel
theorem dX10_gather_72 : decode cX10_gather 72 = .ok (.invokevirtual 319, 3) := by decide +kernel
theorem dX10_gather_75 : decode cX10_gather 75 = .ok (.goto 4, 3) := by decide +kernel
theorem dX10_gather_78 : decode cX10_gather 78 = .ok (.iconst 0, 1) := by decide +kernel
theorem dX10_gather_79 : decode cX10_gather 79 = .ok (.istore 7, 2) := by decide +kernel
theorem dX10_gather_81 : decode cX10_gather 81 = .ok (.iload 6, 2) := by decide +kernel
theorem dX10_gather_83 : decode cX10_gather 83 = .ok (.iload_n 3, 1) := by decide +kernel
theorem dX10_gather_84 : decode cX10_gather 84 = .ok (.if_icmp .gt 21, 3) := by decide +kernel
theorem dX10_gather_87 : decode cX10_gather 87 = .ok (.iload 6, 2) := by decide +kernel
theorem dX10_gather_89 : decode cX10_gather 89 = .ok (.ifCond .le 26, 3) := by decide +kernel
theorem dX10_gather_92 : decode cX10_gather 92 = .ok (.iload 6, 2) := by decide +kernel
theorem dX10_gather_94 : decode cX10_gather 94 = .ok (.iload_n 3, 1) := by decide +kernel
theorem dX10_gather_95 : decode cX10_gather 95 = .ok (.if_icmp .ne 20, 3) := by decide +kernel
theorem dX10_gather_98 : decode cX10_gather 98 = .ok (.iload 7, 2) := by decide +kernel
theorem dX10_gather_100 : decode cX10_gather 100 = .ok (.iload 4, 2) := by decide +kernel
theorem dX10_gather_102 : decode cX10_gather 102 = .ok (.if_icmp .ge 13, 3) := by decide +kernel
theorem dX10_gather_105 : decode cX10_gather 105 = .ok (.iload 5, 2) := by decide +kernel
theorem dX10_gather_107 : decode cX10_gather 107 = .ok (.istore_n 2, 1) := by decide +kernel
theorem dX10_gather_108 : decode cX10_gather 108 = .ok (.iload 6, 2) := by decide +kernel
theorem dX10_gather_110 : decode cX10_gather 110 = .ok (.istore_n 3, 1) := by decide +kernel
theorem dX10_gather_111 : decode cX10_gather 111 = .ok (.iload 7, 2) := by decide +kernel
theorem dX10_gather_113 : decode cX10_gather 113 = .ok (.istore 4, 2) := by decide +kernel
theorem dX10_gather_115 : decode cX10_gather 115 = .ok (.iinc 5 1, 3) := by decide +kernel
theorem dX10_gather_118 : decode cX10_gather 118 = .ok (.goto (-85), 3) := by decide +kernel
theorem dX10_gather_121 : decode cX10_gather 121 = .ok (.iload_n 1, 1) := by decide +kernel
theorem dX10_gather_122 : decode cX10_gather 122 = .ok (.ifCond .ne 10, 3) := by decide +kernel
theorem dX10_gather_125 : decode cX10_gather 125 = .ok (.iload_n 2, 1) := by decide +kernel
theorem dX10_gather_126 : decode cX10_gather 126 = .ok (.invokestatic 214, 3) := by decide +kernel
theorem dX10_gather_129 : decode cX10_gather 129 = .ok (.goto 5, 3) := by decide +kernel
theorem dX10_gather_132 : decode cX10_gather 132 = .ok (.iload 4, 2) := by decide +kernel
theorem dX10_gather_134 : decode cX10_gather 134 = .ok (.ireturn, 1) := by decide +kernel
theorem dX10_comers_0 : decode cX10_comers 0 = .ok (.iconst 0, 1) := by decide +kernel
theorem dX10_comers_1 : decode cX10_comers 1 = .ok (.istore_n 2, 1) := by decide +kernel
theorem dX10_comers_2 : decode cX10_comers 2 = .ok (.iconst 0, 1) := by decide +kernel
theorem dX10_comers_3 : decode cX10_comers 3 = .ok (.istore_n 3, 1) := by decide +kernel
theorem dX10_comers_4 : decode cX10_comers 4 = .ok (.iload_n 3, 1) := by decide +kernel
theorem dX10_comers_5 : decode cX10_comers 5 = .ok (.aload_n 0, 1) := by decide +kernel
theorem dX10_comers_6 : decode cX10_comers 6 = .ok (.getfield 26, 3) := by decide +kernel
theorem dX10_comers_9 : decode cX10_comers 9 = .ok (.getfield 147, 3) := by decide +kernel
theorem dX10_comers_12 : decode cX10_comers 12 = .ok (.if_icmp .ge 33, 3) := by decide +kernel
theorem dX10_comers_15 : decode cX10_comers 15 = .ok (.aload_n 0, 1) := by decide +kernel
theorem dX10_comers_16 : decode cX10_comers 16 = .ok (.getfield 86, 3) := by decide +kernel
theorem dX10_comers_19 : decode cX10_comers 19 = .ok (.aload_n 0, 1) := by decide +kernel
theorem dX10_comers_20 : decode cX10_comers 20 = .ok (.getfield 45, 3) := by decide +kernel
theorem dX10_comers_23 : decode cX10_comers 23 = .ok (.getfield 208, 3) := by decide +kernel
theorem dX10_comers_26 : decode cX10_comers 26 = .ok (.iload_n 3, 1) := by decide +kernel
theorem dX10_comers_27 : decode cX10_comers 27 = .ok (.iaload, 1) := by decide +kernel
theorem dX10_comers_28 : decode cX10_comers 28 = .ok (.iload_n 1, 1) := by decide +kernel
theorem dX10_comers_29 : decode cX10_comers 29 = .ok (.invokevirtual 226, 3) := by decide +kernel
theorem dX10_comers_32 : decode cX10_comers 32 = .ok (.iconst (-1), 1) := by decide +kernel
theorem dX10_comers_33 : decode cX10_comers 33 = .ok (.if_icmp .eq 6, 3) := by decide +kernel
theorem dX10_comers_36 : decode cX10_comers 36 = .ok (.iinc 2 1, 3) := by decide +kernel
theorem dX10_comers_39 : decode cX10_comers 39 = .ok (.iinc 3 1, 3) := by decide +kernel
theorem dX10_comers_42 : decode cX10_comers 42 = .ok (.goto (-38), 3) := by decide +kernel
theorem dX10_comers_45 : decode cX10_comers 45 = .ok (.iload_n 2, 1) := by decide +kernel
theorem dX10_comers_46 : decode cX10_comers 46 = .ok (.ireturn, 1) := by decide +kernel
theorem dX10_farForAll_0 : decode cX10_farForAll 0 = .ok (.iconst 0, 1) := by decide +kernel
theorem dX10_farForAll_1 : decode cX10_farForAll 1 = .ok (.istore_n 2, 1) := by decide +kernel
theorem dX10_farForAll_2 : decode cX10_farForAll 2 = .ok (.iconst 0, 1) := by decide +kernel
theorem dX10_farForAll_3 : decode cX10_farForAll 3 = .ok (.istore_n 3, 1) := by decide +kernel
theorem dX10_farForAll_4 : decode cX10_farForAll 4 = .ok (.iload_n 3, 1) := by decide +kernel
theorem dX10_farForAll_5 : decode cX10_farForAll 5 = .ok (.aload_n 0, 1) := by decide +kernel
theorem dX10_farForAll_6 : decode cX10_farForAll 6 = .ok (.getfield 26, 3) := by decide +kernel
theorem dX10_farForAll_9 : decode cX10_farForAll 9 = .ok (.getfield 147, 3) := by decide +kernel
theorem dX10_farForAll_12 : decode cX10_farForAll 12 = .ok (.if_icmp .ge 43, 3) := by decide +kernel
theorem dX10_farForAll_15 : decode cX10_farForAll 15 = .ok (.aload_n 0, 1) := by decide +kernel
theorem dX10_farForAll_16 : decode cX10_farForAll 16 = .ok (.getfield 86, 3) := by decide +kernel
theorem dX10_farForAll_19 : decode cX10_farForAll 19 = .ok (.aload_n 0, 1) := by decide +kernel
theorem dX10_farForAll_20 : decode cX10_farForAll 20 = .ok (.getfield 45, 3) := by decide +kernel
theorem dX10_farForAll_23 : decode cX10_farForAll 23 = .ok (.getfield 208, 3) := by decide +kernel
theorem dX10_farForAll_26 : decode cX10_farForAll 26 = .ok (.iload_n 3, 1) := by decide +kernel
theorem dX10_farForAll_27 : decode cX10_farForAll 27 = .ok (.iaload, 1) := by decide +kernel
theorem dX10_farForAll_28 : decode cX10_farForAll 28 = .ok (.iload_n 1, 1) := by decide +kernel
theorem dX10_farForAll_29 : decode cX10_farForAll 29 = .ok (.invokevirtual 226, 3) := by decide +kernel
theorem dX10_farForAll_32 : decode cX10_farForAll 32 = .ok (.istore 4, 2) := by decide +kernel
theorem dX10_farForAll_34 : decode cX10_farForAll 34 = .ok (.iload_n 2, 1) := by decide +kernel
theorem dX10_farForAll_35 : decode cX10_farForAll 35 = .ok (.iload 4, 2) := by decide +kernel
theorem dX10_farForAll_37 : decode cX10_farForAll 37 = .ok (.iconst (-1), 1) := by decide +kernel
theorem dX10_farForAll_38 : decode cX10_farForAll 38 = .ok (.if_icmp .ne 7, 3) := by decide +kernel
theorem dX10_farForAll_41 : decode cX10_farForAll 41 = .ok (.iconst 0, 1) := by decide +kernel
theorem dX10_farForAll_42 : decode cX10_farForAll 42 = .ok (.goto 5, 3) := by decide +kernel
theorem dX10_farForAll_45 : decode cX10_farForAll 45 = .ok (.iload 4, 2) := by decide +kernel
theorem dX10_farForAll_47 : decode cX10_farForAll 47 = .ok (.iadd, 1) := by decide +kernel
theorem dX10_farForAll_48 : decode cX10_farForAll 48 = .ok (.istore_n 2, 1) := by decide +kernel
theorem dX10_farForAll_49 : decode cX10_farForAll 49 = .ok (.iinc 3 1, 3) := by decide +kernel
theorem dX10_farForAll_52 : decode cX10_farForAll 52 = .ok (.goto (-48), 3) := by decide +kernel
theorem dX10_farForAll_55 : decode cX10_farForAll 55 = .ok (.iload_n 2, 1) := by decide +kernel
theorem dX10_farForAll_56 : decode cX10_farForAll 56 = .ok (.ireturn, 1) := by decide +kernel
theorem dX10_errands_0 : decode cX10_errands 0 = .ok (.aload_n 0, 1) := by decide +kernel
theorem dX10_errands_1 : decode cX10_errands 1 = .ok (.iload_n 1, 1) := by decide +kernel
theorem dX10_errands_2 : decode cX10_errands 2 = .ok (.iconst 2, 1) := by decide +kernel
theorem dX10_errands_3 : decode cX10_errands 3 = .ok (.invokevirtual 140, 3) := by decide +kernel
theorem dX10_errands_6 : decode cX10_errands 6 = .ok (.aload_n 0, 1) := by decide +kernel
theorem dX10_errands_7 : decode cX10_errands 7 = .ok (.getfield 93, 3) := by decide +kernel
theorem dX10_errands_10 : decode cX10_errands 10 = .ok (.aload_n 0, 1) := by decide +kernel
theorem dX10_errands_11 : decode cX10_errands 11 = .ok (.invokevirtual 153, 3) := by decide +kernel
theorem dX10_errands_14 : decode cX10_errands 14 = .ok (.aload_n 0, 1) := by decide +kernel
theorem dX10_errands_15 : decode cX10_errands 15 = .ok (.getfield 45, 3) := by decide +kernel
theorem dX10_errands_18 : decode cX10_errands 18 = .ok (.aload_n 0, 1) := by decide +kernel
theorem dX10_errands_19 : decode cX10_errands 19 = .ok (.getfield 26, 3) := by decide +kernel
theorem dX10_errands_22 : decode cX10_errands 22 = .ok (.getfield 147, 3) := by decide +kernel
theorem dX10_errands_25 : decode cX10_errands 25 = .ok (.invokevirtual 322, 3) := by decide +kernel
theorem dX10_errands_28 : decode cX10_errands 28 = .ok (.iload_n 1, 1) := by decide +kernel
theorem dX10_errands_29 : decode cX10_errands 29 = .ok (.ifCond .ne 13, 3) := by decide +kernel
theorem dX10_errands_32 : decode cX10_errands 32 = .ok (.aload_n 0, 1) := by decide +kernel
theorem dX10_errands_33 : decode cX10_errands 33 = .ok (.getfield 93, 3) := by decide +kernel
theorem dX10_errands_36 : decode cX10_errands 36 = .ok (.invokevirtual 326, 3) := by decide +kernel
theorem dX10_errands_39 : decode cX10_errands 39 = .ok (.goto 10, 3) := by decide +kernel
theorem dX10_errands_42 : decode cX10_errands 42 = .ok (.aload_n 0, 1) := by decide +kernel
theorem dX10_errands_43 : decode cX10_errands 43 = .ok (.getfield 93, 3) := by decide +kernel
theorem dX10_errands_46 : decode cX10_errands 46 = .ok (.invokevirtual 329, 3) := by decide +kernel
theorem dX10_errands_49 : decode cX10_errands 49 = .ok (.ireturn, 1) := by decide +kernel
theorem dX10_errand_0 : decode cX10_errand 0 = .ok (.aload_n 0, 1) := by decide +kernel
theorem dX10_errand_1 : decode cX10_errand 1 = .ok (.iload_n 1, 1) := by decide +kernel
theorem dX10_errand_2 : decode cX10_errand 2 = .ok (.invokevirtual 211, 3) := by decide +kernel
theorem dX10_errand_5 : decode cX10_errand 5 = .ok (.aload_n 0, 1) := by decide +kernel
theorem dX10_errand_6 : decode cX10_errand 6 = .ok (.getfield 93, 3) := by decide +kernel
theorem dX10_errand_9 : decode cX10_errand 9 = .ok (.aload_n 0, 1) := by decide +kernel
theorem dX10_errand_10 : decode cX10_errand 10 = .ok (.invokevirtual 153, 3) := by decide +kernel
theorem dX10_errand_13 : decode cX10_errand 13 = .ok (.aload_n 0, 1) := by decide +kernel
theorem dX10_errand_14 : decode cX10_errand 14 = .ok (.getfield 45, 3) := by decide +kernel
theorem dX10_errand_17 : decode cX10_errand 17 = .ok (.aload_n 0, 1) := by decide +kernel
theorem dX10_errand_18 : decode cX10_errand 18 = .ok (.getfield 26, 3) := by decide +kernel
theorem dX10_errand_21 : decode cX10_errand 21 = .ok (.getfield 147, 3) := by decide +kernel
theorem dX10_errand_24 : decode cX10_errand 24 = .ok (.invokevirtual 322, 3) := by decide +kernel
theorem dX10_errand_27 : decode cX10_errand 27 = .ok (.aload_n 0, 1) := by decide +kernel
theorem dX10_errand_28 : decode cX10_errand 28 = .ok (.getfield 93, 3) := by decide +kernel
theorem dX10_errand_31 : decode cX10_errand 31 = .ok (.iload_n 1, 1) := by decide +kernel
theorem dX10_errand_32 : decode cX10_errand 32 = .ok (.invokevirtual 332, 3) := by decide +kernel
theorem dX10_errand_35 : decode cX10_errand 35 = .ok (.ireturn, 1) := by decide +kernel
theorem dX10_see_0 : decode cX10_see 0 = .ok (.aload_n 0, 1) := by decide +kernel
theorem dX10_see_1 : decode cX10_see 1 = .ok (.iload_n 1, 1) := by decide +kernel
theorem dX10_see_2 : decode cX10_see 2 = .ok (.invokevirtual 211, 3) := by decide +kernel
theorem dX10_see_5 : decode cX10_see 5 = .ok (.aload_n 0, 1) := by decide +kernel
theorem dX10_see_6 : decode cX10_see 6 = .ok (.iload_n 2, 1) := by decide +kernel
theorem dX10_see_7 : decode cX10_see 7 = .ok (.invokevirtual 185, 3) := by decide +kernel
theorem dX10_see_10 : decode cX10_see 10 = .ok (.aload_n 0, 1) := by decide +kernel
theorem dX10_see_11 : decode cX10_see 11 = .ok (.getfield 59, 3) := by decide +kernel
theorem dX10_see_14 : decode cX10_see 14 = .ok (.getfield 184, 3) := by decide +kernel
theorem dX10_see_17 : decode cX10_see 17 = .ok (.bipush 8, 2) := by decide +kernel
theorem dX10_see_19 : decode cX10_see 19 = .ok (.if_icmp .ge 13, 3) := by decide +kernel
theorem dX10_see_22 : decode cX10_see 22 = .ok (.iload_n 3, 1) := by decide +kernel
theorem dX10_see_23 : decode cX10_see 23 = .ok (.ifCond .lt 9, 3) := by decide +kernel
theorem dX10_see_26 : decode cX10_see 26 = .ok (.iload_n 3, 1) := by decide +kernel
theorem dX10_see_27 : decode cX10_see 27 = .ok (.bipush 20, 2) := by decide +kernel
theorem dX10_see_29 : decode cX10_see 29 = .ok (.if_icmp .le 15, 3) := by decide +kernel
theorem dX10_see_32 : decode cX10_see 32 = .ok (.aload_n 0, 1) := by decide +kernel
theorem dX10_see_33 : decode cX10_see 33 = .ok (.getfield 20, 3) := by decide +kernel
theorem dX10_see_36 : decode cX10_see 36 = .ok (.iconst 2, 1) := by decide +kernel
theorem dX10_see_37 : decode cX10_see 37 = .ok (.dup2, 1) := by decide +kernel
theorem dX10_see_38 : decode cX10_see 38 = .ok (.iaload, 1) := by decide +kernel
theorem dX10_see_39 : decode cX10_see 39 = .ok (.iconst 1, 1) := by decide +kernel
theorem dX10_see_40 : decode cX10_see 40 = .ok (.iadd, 1) := by decide +kernel
theorem dX10_see_41 : decode cX10_see 41 = .ok (.iastore, 1) := by decide +kernel
theorem dX10_see_42 : decode cX10_see 42 = .ok (.iconst (-1), 1) := by decide +kernel
theorem dX10_see_43 : decode cX10_see 43 = .ok (.ireturn, 1) := by decide +kernel
theorem dX10_see_44 : decode cX10_see 44 = .ok (.aload_n 0, 1) := by decide +kernel
theorem dX10_see_45 : decode cX10_see 45 = .ok (.getfield 59, 3) := by decide +kernel
theorem dX10_see_48 : decode cX10_see 48 = .ok (.iload_n 1, 1) := by decide +kernel
theorem dX10_see_49 : decode cX10_see 49 = .ok (.iload_n 2, 1) := by decide +kernel
theorem dX10_see_50 : decode cX10_see 50 = .ok (.iload_n 3, 1) := by decide +kernel
theorem dX10_see_51 : decode cX10_see 51 = .ok (.invokevirtual 335, 3) := by decide +kernel
theorem dX10_see_54 : decode cX10_see 54 = .ok (.aload_n 0, 1) := by decide +kernel
theorem dX10_see_55 : decode cX10_see 55 = .ok (.getfield 59, 3) := by decide +kernel
theorem dX10_see_58 : decode cX10_see 58 = .ok (.getfield 184, 3) := by decide +kernel
theorem dX10_see_61 : decode cX10_see 61 = .ok (.ireturn, 1) := by decide +kernel
theorem dX10_forget_0 : decode cX10_forget 0 = .ok (.aload_n 0, 1) := by decide +kernel
theorem dX10_forget_1 : decode cX10_forget 1 = .ok (.getfield 59, 3) := by decide +kernel
theorem dX10_forget_4 : decode cX10_forget 4 = .ok (.invokevirtual 139, 3) := by decide +kernel
theorem dX10_forget_7 : decode cX10_forget 7 = .ok (.return_, 1) := by decide +kernel
theorem dX10_quick_0 : decode cX10_quick 0 = .ok (.aload_n 0, 1) := by decide +kernel
theorem dX10_quick_1 : decode cX10_quick 1 = .ok (.iload_n 1, 1) := by decide +kernel
theorem dX10_quick_2 : decode cX10_quick 2 = .ok (.iconst 3, 1) := by decide +kernel
theorem dX10_quick_3 : decode cX10_quick 3 = .ok (.invokevirtual 140, 3) := by decide +kernel
theorem dX10_quick_6 : decode cX10_quick 6 = .ok (.iload_n 1, 1) := by decide +kernel
theorem dX10_quick_7 : decode cX10_quick 7 = .ok (.iconst 2, 1) := by decide +kernel
theorem dX10_quick_8 : decode cX10_quick 8 = .ok (.if_icmp .ne 18, 3) := by decide +kernel
theorem dX10_quick_11 : decode cX10_quick 11 = .ok (.aload_n 0, 1) := by decide +kernel
theorem dX10_quick_12 : decode cX10_quick 12 = .ok (.iconst (-1), 1) := by decide +kernel
theorem dX10_quick_13 : decode cX10_quick 13 = .ok (.iconst 0, 1) := by decide +kernel
theorem dX10_quick_14 : decode cX10_quick 14 = .ok (.invokevirtual 337, 3) := by decide +kernel
theorem dX10_quick_17 : decode cX10_quick 17 = .ok (.ifCond .eq 7, 3) := by decide +kernel
theorem dX10_quick_20 : decode cX10_quick 20 = .ok (.iconst 1, 1) := by decide +kernel
theorem dX10_quick_21 : decode cX10_quick 21 = .ok (.goto 4, 3) := by decide +kernel
theorem dX10_quick_24 : decode cX10_quick 24 = .ok (.iconst 0, 1) := by decide +kernel
theorem dX10_quick_25 : decode cX10_quick 25 = .ok (.ireturn, 1) := by decide +kernel
theorem dX10_quick_26 : decode cX10_quick 26 = .ok (.iconst 0, 1) := by decide +kernel
theorem dX10_quick_27 : decode cX10_quick 27 = .ok (.istore_n 2, 1) := by decide +kernel
theorem dX10_quick_28 : decode cX10_quick 28 = .ok (.iconst (-1), 1) := by decide +kernel
theorem dX10_quick_29 : decode cX10_quick 29 = .ok (.istore_n 3, 1) := by decide +kernel
theorem dX10_quick_30 : decode cX10_quick 30 = .ok (.iconst 0, 1) := by decide +kernel
theorem dX10_quick_31 : decode cX10_quick 31 = .ok (.istore 4, 2) := by decide +kernel
theorem dX10_quick_33 : decode cX10_quick 33 = .ok (.iload 4, 2) := by decide +kernel
theorem dX10_quick_35 : decode cX10_quick 35 = .ok (.aload_n 0, 1) := by decide +kernel
theorem dX10_quick_36 : decode cX10_quick 36 = .ok (.getfield 26, 3) := by decide +kernel
theorem dX10_quick_39 : decode cX10_quick 39 = .ok (.getfield 147, 3) := by decide +kernel
theorem dX10_quick_42 : decode cX10_quick 42 = .ok (.if_icmp .ge 71, 3) := by decide +kernel
theorem dX10_quick_45 : decode cX10_quick 45 = .ok (.iconst 0, 1) := by decide +kernel
theorem dX10_quick_46 : decode cX10_quick 46 = .ok (.istore 5, 2) := by decide +kernel
theorem dX10_quick_48 : decode cX10_quick 48 = .ok (.iload 5, 2) := by decide +kernel
theorem dX10_quick_50 : decode cX10_quick 50 = .ok (.bipush 9, 2) := by decide +kernel
theorem dX10_quick_52 : decode cX10_quick 52 = .ok (.if_icmp .gt 55, 3) := by decide +kernel
theorem dX10_quick_55 : decode cX10_quick 55 = .ok (.iload 5, 2) := by decide +kernel
theorem dX10_quick_57 : decode cX10_quick 57 = .ok (.aload_n 0, 1) := by decide +kernel
theorem dX10_quick_58 : decode cX10_quick 58 = .ok (.getfield 26, 3) := by decide +kernel
theorem dX10_quick_61 : decode cX10_quick 61 = .ok (.getfield 217, 3) := by decide +kernel
theorem dX10_quick_64 : decode cX10_quick 64 = .ok (.iload 4, 2) := by decide +kernel
theorem dX10_quick_66 : decode cX10_quick 66 = .ok (.iaload, 1) := by decide +kernel
theorem dX10_quick_67 : decode cX10_quick 67 = .ok (.if_icmp .eq 34, 3) := by decide +kernel
theorem dX10_quick_70 : decode cX10_quick 70 = .ok (.aload_n 0, 1) := by decide +kernel
theorem dX10_quick_71 : decode cX10_quick 71 = .ok (.iload 4, 2) := by decide +kernel
theorem dX10_quick_73 : decode cX10_quick 73 = .ok (.iload 5, 2) := by decide +kernel
theorem dX10_quick_75 : decode cX10_quick 75 = .ok (.invokevirtual 337, 3) := by decide +kernel
theorem dX10_quick_78 : decode cX10_quick 78 = .ok (.ifCond .eq 23, 3) := by decide +kernel
theorem dX10_quick_81 : decode cX10_quick 81 = .ok (.iload_n 2, 1) := by decide +kernel
theorem dX10_quick_82 : decode cX10_quick 82 = .ok (.ifCond .ne 14, 3) := by decide +kernel
theorem dX10_quick_85 : decode cX10_quick 85 = .ok (.bipush 10, 2) := by decide +kernel
theorem dX10_quick_87 : decode cX10_quick 87 = .ok (.iload 4, 2) := by decide +kernel
theorem dX10_quick_89 : decode cX10_quick 89 = .ok (.imul, 1) := by decide +kernel
theorem dX10_quick_90 : decode cX10_quick 90 = .ok (.iload 5, 2) := by decide +kernel
theorem dX10_quick_92 : decode cX10_quick 92 = .ok (.iadd, 1) := by decide +kernel
theorem dX10_quick_93 : decode cX10_quick 93 = .ok (.goto 4, 3) := by decide +kernel
theorem dX10_quick_96 : decode cX10_quick 96 = .ok (.iload_n 3, 1) := by decide +kernel
theorem dX10_quick_97 : decode cX10_quick 97 = .ok (.istore_n 3, 1) := by decide +kernel
theorem dX10_quick_98 : decode cX10_quick 98 = .ok (.iinc 2 1, 3) := by decide +kernel
theorem dX10_quick_101 : decode cX10_quick 101 = .ok (.iinc 5 1, 3) := by decide +kernel
theorem dX10_quick_104 : decode cX10_quick 104 = .ok (.goto (-56), 3) := by decide +kernel
theorem dX10_quick_107 : decode cX10_quick 107 = .ok (.iinc 4 1, 3) := by decide +kernel
theorem dX10_quick_110 : decode cX10_quick 110 = .ok (.goto (-77), 3) := by decide +kernel
theorem dX10_quick_113 : decode cX10_quick 113 = .ok (.iload_n 1, 1) := by decide +kernel
theorem dX10_quick_114 : decode cX10_quick 114 = .ok (.ifCond .ne 7, 3) := by decide +kernel
theorem dX10_quick_117 : decode cX10_quick 117 = .ok (.iload_n 2, 1) := by decide +kernel
theorem dX10_quick_118 : decode cX10_quick 118 = .ok (.goto 4, 3) := by decide +kernel
theorem dX10_quick_121 : decode cX10_quick 121 = .ok (.iload_n 3, 1) := by decide +kernel
theorem dX10_quick_122 : decode cX10_quick 122 = .ok (.ireturn, 1) := by decide +kernel
theorem dX10_isSeenWith_0 : decode cX10_isSeenWith 0 = .ok (.aload_n 0, 1) := by decide +kernel
theorem dX10_isSeenWith_1 : decode cX10_isSeenWith 1 = .ok (.iload_n 1, 1) := by decide +kernel
theorem dX10_isSeenWith_2 : decode cX10_isSeenWith 2 = .ok (.iload_n 2, 1) := by decide +kernel
