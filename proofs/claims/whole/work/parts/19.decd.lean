theorem dX11_readsStile_109 : decode cX11_readsStile 109 = .ok (.ifCond .ne 4, 3) := by decide +kernel
theorem dX11_readsStile_112 : decode cX11_readsStile 112 = .ok (.return_, 1) := by decide +kernel
theorem dX11_readsStile_113 : decode cX11_readsStile 113 = .ok (.aload_n 0, 1) := by decide +kernel
theorem dX11_readsStile_114 : decode cX11_readsStile 114 = .ok (.getfield 35, 3) := by decide +kernel
theorem dX11_readsStile_117 : decode cX11_readsStile 117 = .ok (.bipush 49, 2) := by decide +kernel
theorem dX11_readsStile_119 : decode cX11_readsStile 119 = .ok (.iload_n 1, 1) := by decide +kernel
theorem dX11_readsStile_120 : decode cX11_readsStile 120 = .ok (.iadd, 1) := by decide +kernel
theorem dX11_readsStile_121 : decode cX11_readsStile 121 = .ok (.dup2, 1) := by decide +kernel
theorem dX11_readsStile_122 : decode cX11_readsStile 122 = .ok (.iaload, 1) := by decide +kernel
theorem dX11_readsStile_123 : decode cX11_readsStile 123 = .ok (.iconst 1, 1) := by decide +kernel
theorem dX11_readsStile_124 : decode cX11_readsStile 124 = .ok (.aload_n 0, 1) := by decide +kernel
theorem dX11_readsStile_125 : decode cX11_readsStile 125 = .ok (.getfield 126, 3) := by decide +kernel
theorem dX11_readsStile_128 : decode cX11_readsStile 128 = .ok (.ishl, 1) := by decide +kernel
theorem dX11_readsStile_129 : decode cX11_readsStile 129 = .ok (.ior, 1) := by decide +kernel
theorem dX11_readsStile_130 : decode cX11_readsStile 130 = .ok (.iastore, 1) := by decide +kernel
theorem dX11_readsStile_131 : decode cX11_readsStile 131 = .ok (.aload_n 0, 1) := by decide +kernel
theorem dX11_readsStile_132 : decode cX11_readsStile 132 = .ok (.invokevirtual 162, 3) := by decide +kernel
theorem dX11_readsStile_135 : decode cX11_readsStile 135 = .ok (.return_, 1) := by decide +kernel
theorem dX11_readsPlace_0 : decode cX11_readsPlace 0 = .ok (.aload_n 0, 1) := by decide +kernel
theorem dX11_readsPlace_1 : decode cX11_readsPlace 1 = .ok (.aload_n 0, 1) := by decide +kernel
theorem dX11_readsPlace_2 : decode cX11_readsPlace 2 = .ok (.getfield 221, 3) := by decide +kernel
theorem dX11_readsPlace_5 : decode cX11_readsPlace 5 = .ok (.invokevirtual 228, 3) := by decide +kernel
theorem dX11_readsPlace_8 : decode cX11_readsPlace 8 = .ok (.ifCond .ne 5, 3) := by decide +kernel
theorem dX11_readsPlace_11 : decode cX11_readsPlace 11 = .ok (.iconst (-1), 1) := by decide +kernel
theorem dX11_readsPlace_12 : decode cX11_readsPlace 12 = .ok (.ireturn, 1) := by decide +kernel
theorem dX11_readsPlace_13 : decode cX11_readsPlace 13 = .ok (.aload_n 0, 1) := by decide +kernel
theorem dX11_readsPlace_14 : decode cX11_readsPlace 14 = .ok (.getfield 126, 3) := by decide +kernel
theorem dX11_readsPlace_17 : decode cX11_readsPlace 17 = .ok (.istore_n 1, 1) := by decide +kernel
theorem dX11_readsPlace_18 : decode cX11_readsPlace 18 = .ok (.aload_n 0, 1) := by decide +kernel
theorem dX11_readsPlace_19 : decode cX11_readsPlace 19 = .ok (.invokevirtual 162, 3) := by decide +kernel
theorem dX11_readsPlace_22 : decode cX11_readsPlace 22 = .ok (.aload_n 0, 1) := by decide +kernel
theorem dX11_readsPlace_23 : decode cX11_readsPlace 23 = .ok (.aload_n 0, 1) := by decide +kernel
theorem dX11_readsPlace_24 : decode cX11_readsPlace 24 = .ok (.getfield 32, 3) := by decide +kernel
theorem dX11_readsPlace_27 : decode cX11_readsPlace 27 = .ok (.iload_n 1, 1) := by decide +kernel
theorem dX11_readsPlace_28 : decode cX11_readsPlace 28 = .ok (.iaload, 1) := by decide +kernel
theorem dX11_readsPlace_29 : decode cX11_readsPlace 29 = .ok (.invokevirtual 228, 3) := by decide +kernel
theorem dX11_readsPlace_32 : decode cX11_readsPlace 32 = .ok (.ifCond .ne 5, 3) := by decide +kernel
theorem dX11_readsPlace_35 : decode cX11_readsPlace 35 = .ok (.iconst (-1), 1) := by decide +kernel
theorem dX11_readsPlace_36 : decode cX11_readsPlace 36 = .ok (.ireturn, 1) := by decide +kernel
theorem dX11_readsPlace_37 : decode cX11_readsPlace 37 = .ok (.bipush 8, 2) := by decide +kernel
theorem dX11_readsPlace_39 : decode cX11_readsPlace 39 = .ok (.iload_n 1, 1) := by decide +kernel
theorem dX11_readsPlace_40 : decode cX11_readsPlace 40 = .ok (.imul, 1) := by decide +kernel
theorem dX11_readsPlace_41 : decode cX11_readsPlace 41 = .ok (.aload_n 0, 1) := by decide +kernel
theorem dX11_readsPlace_42 : decode cX11_readsPlace 42 = .ok (.getfield 126, 3) := by decide +kernel
theorem dX11_readsPlace_45 : decode cX11_readsPlace 45 = .ok (.iadd, 1) := by decide +kernel
theorem dX11_readsPlace_46 : decode cX11_readsPlace 46 = .ok (.istore_n 2, 1) := by decide +kernel
theorem dX11_readsPlace_47 : decode cX11_readsPlace 47 = .ok (.aload_n 0, 1) := by decide +kernel
theorem dX11_readsPlace_48 : decode cX11_readsPlace 48 = .ok (.invokevirtual 162, 3) := by decide +kernel
theorem dX11_readsPlace_51 : decode cX11_readsPlace 51 = .ok (.iload_n 2, 1) := by decide +kernel
theorem dX11_readsPlace_52 : decode cX11_readsPlace 52 = .ok (.ireturn, 1) := by decide +kernel
theorem dX11_readsPerson_0 : decode cX11_readsPerson 0 = .ok (.aload_n 0, 1) := by decide +kernel
theorem dX11_readsPerson_1 : decode cX11_readsPerson 1 = .ok (.getfield 234, 3) := by decide +kernel
theorem dX11_readsPerson_4 : decode cX11_readsPerson 4 = .ok (.istore_n 1, 1) := by decide +kernel
theorem dX11_readsPerson_5 : decode cX11_readsPerson 5 = .ok (.aload_n 0, 1) := by decide +kernel
theorem dX11_readsPerson_6 : decode cX11_readsPerson 6 = .ok (.getfield 35, 3) := by decide +kernel
theorem dX11_readsPerson_9 : decode cX11_readsPerson 9 = .ok (.bipush 55, 2) := by decide +kernel
theorem dX11_readsPerson_11 : decode cX11_readsPerson 11 = .ok (.iload_n 1, 1) := by decide +kernel
theorem dX11_readsPerson_12 : decode cX11_readsPerson 12 = .ok (.iadd, 1) := by decide +kernel
theorem dX11_readsPerson_13 : decode cX11_readsPerson 13 = .ok (.aload_n 0, 1) := by decide +kernel
theorem dX11_readsPerson_14 : decode cX11_readsPerson 14 = .ok (.invokevirtual 237, 3) := by decide +kernel
theorem dX11_readsPerson_17 : decode cX11_readsPerson 17 = .ok (.iastore, 1) := by decide +kernel
theorem dX11_readsPerson_18 : decode cX11_readsPerson 18 = .ok (.aload_n 0, 1) := by decide +kernel
theorem dX11_readsPerson_19 : decode cX11_readsPerson 19 = .ok (.getfield 35, 3) := by decide +kernel
theorem dX11_readsPerson_22 : decode cX11_readsPerson 22 = .ok (.bipush 73, 2) := by decide +kernel
theorem dX11_readsPerson_24 : decode cX11_readsPerson 24 = .ok (.iload_n 1, 1) := by decide +kernel
theorem dX11_readsPerson_25 : decode cX11_readsPerson 25 = .ok (.iadd, 1) := by decide +kernel
theorem dX11_readsPerson_26 : decode cX11_readsPerson 26 = .ok (.aload_n 0, 1) := by decide +kernel
theorem dX11_readsPerson_27 : decode cX11_readsPerson 27 = .ok (.iconst 0, 1) := by decide +kernel
theorem dX11_readsPerson_28 : decode cX11_readsPerson 28 = .ok (.bipush 9, 2) := by decide +kernel
theorem dX11_readsPerson_30 : decode cX11_readsPerson 30 = .ok (.invokevirtual 224, 3) := by decide +kernel
theorem dX11_readsPerson_33 : decode cX11_readsPerson 33 = .ok (.iastore, 1) := by decide +kernel
theorem dX11_readsPerson_34 : decode cX11_readsPerson 34 = .ok (.aload_n 0, 1) := by decide +kernel
theorem dX11_readsPerson_35 : decode cX11_readsPerson 35 = .ok (.getfield 35, 3) := by decide +kernel
theorem dX11_readsPerson_38 : decode cX11_readsPerson 38 = .ok (.bipush 61, 2) := by decide +kernel
theorem dX11_readsPerson_40 : decode cX11_readsPerson 40 = .ok (.iload_n 1, 1) := by decide +kernel
theorem dX11_readsPerson_41 : decode cX11_readsPerson 41 = .ok (.iadd, 1) := by decide +kernel
theorem dX11_readsPerson_42 : decode cX11_readsPerson 42 = .ok (.iconst (-1), 1) := by decide +kernel
theorem dX11_readsPerson_43 : decode cX11_readsPerson 43 = .ok (.iastore, 1) := by decide +kernel
theorem dX11_readsPerson_44 : decode cX11_readsPerson 44 = .ok (.aload_n 0, 1) := by decide +kernel
theorem dX11_readsPerson_45 : decode cX11_readsPerson 45 = .ok (.invokevirtual 158, 3) := by decide +kernel
theorem dX11_readsPerson_48 : decode cX11_readsPerson 48 = .ok (.ifCond .eq 29, 3) := by decide +kernel
theorem dX11_readsPerson_51 : decode cX11_readsPerson 51 = .ok (.aload_n 0, 1) := by decide +kernel
theorem dX11_readsPerson_52 : decode cX11_readsPerson 52 = .ok (.invokevirtual 183, 3) := by decide +kernel
theorem dX11_readsPerson_55 : decode cX11_readsPerson 55 = .ok (.bipush 11, 2) := by decide +kernel
theorem dX11_readsPerson_57 : decode cX11_readsPerson 57 = .ok (.if_icmp .ne 20, 3) := by decide +kernel
theorem dX11_readsPerson_60 : decode cX11_readsPerson 60 = .ok (.aload_n 0, 1) := by decide +kernel
theorem dX11_readsPerson_61 : decode cX11_readsPerson 61 = .ok (.invokevirtual 162, 3) := by decide +kernel
theorem dX11_readsPerson_64 : decode cX11_readsPerson 64 = .ok (.aload_n 0, 1) := by decide +kernel
theorem dX11_readsPerson_65 : decode cX11_readsPerson 65 = .ok (.getfield 35, 3) := by decide +kernel
theorem dX11_readsPerson_68 : decode cX11_readsPerson 68 = .ok (.bipush 61, 2) := by decide +kernel
theorem dX11_readsPerson_70 : decode cX11_readsPerson 70 = .ok (.iload_n 1, 1) := by decide +kernel
theorem dX11_readsPerson_71 : decode cX11_readsPerson 71 = .ok (.iadd, 1) := by decide +kernel
theorem dX11_readsPerson_72 : decode cX11_readsPerson 72 = .ok (.aload_n 0, 1) := by decide +kernel
theorem dX11_readsPerson_73 : decode cX11_readsPerson 73 = .ok (.invokevirtual 237, 3) := by decide +kernel
theorem dX11_readsPerson_76 : decode cX11_readsPerson 76 = .ok (.iastore, 1) := by decide +kernel
theorem dX11_readsPerson_77 : decode cX11_readsPerson 77 = .ok (.aload_n 0, 1) := by decide +kernel
theorem dX11_readsPerson_78 : decode cX11_readsPerson 78 = .ok (.invokevirtual 158, 3) := by decide +kernel
theorem dX11_readsPerson_81 : decode cX11_readsPerson 81 = .ok (.ifCond .eq 13, 3) := by decide +kernel
theorem dX11_readsPerson_84 : decode cX11_readsPerson 84 = .ok (.aload_n 0, 1) := by decide +kernel
theorem dX11_readsPerson_85 : decode cX11_readsPerson 85 = .ok (.dup, 1) := by decide +kernel
theorem dX11_readsPerson_86 : decode cX11_readsPerson 86 = .ok (.getfield 234, 3) := by decide +kernel
theorem dX11_readsPerson_89 : decode cX11_readsPerson 89 = .ok (.iconst 1, 1) := by decide +kernel
theorem dX11_readsPerson_90 : decode cX11_readsPerson 90 = .ok (.iadd, 1) := by decide +kernel
theorem dX11_readsPerson_91 : decode cX11_readsPerson 91 = .ok (.putfield 234, 3) := by decide +kernel
theorem dX11_readsPerson_94 : decode cX11_readsPerson 94 = .ok (.return_, 1) := by decide +kernel
theorem dX11_line_0 : decode cX11_line 0 = .ok (.aload_n 0, 1) := by decide +kernel
theorem dX11_line_1 : decode cX11_line 1 = .ok (.invokevirtual 183, 3) := by decide +kernel
theorem dX11_line_4 : decode cX11_line 4 = .ok (.istore_n 1, 1) := by decide +kernel
theorem dX11_line_5 : decode cX11_line 5 = .ok (.iload_n 1, 1) := by decide +kernel
theorem dX11_line_6 : decode cX11_line 6 = .ok (.bipush 8, 2) := by decide +kernel
theorem dX11_line_8 : decode cX11_line 8 = .ok (.if_icmp .ne 32, 3) := by decide +kernel
theorem dX11_line_11 : decode cX11_line 11 = .ok (.aload_n 0, 1) := by decide +kernel
theorem dX11_line_12 : decode cX11_line 12 = .ok (.aload_n 0, 1) := by decide +kernel
theorem dX11_line_13 : decode cX11_line 13 = .ok (.getfield 221, 3) := by decide +kernel
theorem dX11_line_16 : decode cX11_line 16 = .ok (.bipush 6, 2) := by decide +kernel
theorem dX11_line_18 : decode cX11_line 18 = .ok (.if_icmp .ne 7, 3) := by decide +kernel
theorem dX11_line_21 : decode cX11_line 21 = .ok (.iconst 1, 1) := by decide +kernel
theorem dX11_line_22 : decode cX11_line 22 = .ok (.goto 4, 3) := by decide +kernel
theorem dX11_line_25 : decode cX11_line 25 = .ok (.iconst 0, 1) := by decide +kernel
theorem dX11_line_26 : decode cX11_line 26 = .ok (.iconst 0, 1) := by decide +kernel
theorem dX11_line_27 : decode cX11_line 27 = .ok (.invokevirtual 240, 3) := by decide +kernel
theorem dX11_line_30 : decode cX11_line 30 = .ok (.ifCond .eq 161, 3) := by decide +kernel
theorem dX11_line_33 : decode cX11_line 33 = .ok (.aload_n 0, 1) := by decide +kernel
theorem dX11_line_34 : decode cX11_line 34 = .ok (.invokevirtual 244, 3) := by decide +kernel
theorem dX11_line_37 : decode cX11_line 37 = .ok (.goto 154, 3) := by decide +kernel
theorem dX11_line_40 : decode cX11_line 40 = .ok (.iload_n 1, 1) := by decide +kernel
theorem dX11_line_41 : decode cX11_line 41 = .ok (.bipush 9, 2) := by decide +kernel
theorem dX11_line_43 : decode cX11_line 43 = .ok (.if_icmp .ne 19, 3) := by decide +kernel
theorem dX11_line_46 : decode cX11_line 46 = .ok (.aload_n 0, 1) := by decide +kernel
theorem dX11_line_47 : decode cX11_line 47 = .ok (.iconst 0, 1) := by decide +kernel
theorem dX11_line_48 : decode cX11_line 48 = .ok (.iconst 0, 1) := by decide +kernel
theorem dX11_line_49 : decode cX11_line 49 = .ok (.invokevirtual 240, 3) := by decide +kernel
theorem dX11_line_52 : decode cX11_line 52 = .ok (.ifCond .eq 139, 3) := by decide +kernel
theorem dX11_line_55 : decode cX11_line 55 = .ok (.aload_n 0, 1) := by decide +kernel
theorem dX11_line_56 : decode cX11_line 56 = .ok (.invokevirtual 247, 3) := by decide +kernel
theorem dX11_line_59 : decode cX11_line 59 = .ok (.goto 132, 3) := by decide +kernel
theorem dX11_line_62 : decode cX11_line 62 = .ok (.iload_n 1, 1) := by decide +kernel
theorem dX11_line_63 : decode cX11_line 63 = .ok (.bipush 10, 2) := by decide +kernel
theorem dX11_line_65 : decode cX11_line 65 = .ok (.if_icmp .ne 32, 3) := by decide +kernel
theorem dX11_line_68 : decode cX11_line 68 = .ok (.aload_n 0, 1) := by decide +kernel
theorem dX11_line_69 : decode cX11_line 69 = .ok (.aload_n 0, 1) := by decide +kernel
theorem dX11_line_70 : decode cX11_line 70 = .ok (.getfield 234, 3) := by decide +kernel
theorem dX11_line_73 : decode cX11_line 73 = .ok (.bipush 6, 2) := by decide +kernel
theorem dX11_line_75 : decode cX11_line 75 = .ok (.if_icmp .ne 7, 3) := by decide +kernel
theorem dX11_line_78 : decode cX11_line 78 = .ok (.iconst 1, 1) := by decide +kernel
theorem dX11_line_79 : decode cX11_line 79 = .ok (.goto 4, 3) := by decide +kernel
theorem dX11_line_82 : decode cX11_line 82 = .ok (.iconst 0, 1) := by decide +kernel
theorem dX11_line_83 : decode cX11_line 83 = .ok (.iconst 0, 1) := by decide +kernel
theorem dX11_line_84 : decode cX11_line 84 = .ok (.invokevirtual 240, 3) := by decide +kernel
theorem dX11_line_87 : decode cX11_line 87 = .ok (.ifCond .eq 104, 3) := by decide +kernel
theorem dX11_line_90 : decode cX11_line 90 = .ok (.aload_n 0, 1) := by decide +kernel
theorem dX11_line_91 : decode cX11_line 91 = .ok (.invokevirtual 250, 3) := by decide +kernel
theorem dX11_line_94 : decode cX11_line 94 = .ok (.goto 97, 3) := by decide +kernel
theorem dX11_line_97 : decode cX11_line 97 = .ok (.iload_n 1, 1) := by decide +kernel
theorem dX11_line_98 : decode cX11_line 98 = .ok (.bipush 12, 2) := by decide +kernel
theorem dX11_line_100 : decode cX11_line 100 = .ok (.if_icmp .ne 41, 3) := by decide +kernel
theorem dX11_line_103 : decode cX11_line 103 = .ok (.aload_n 0, 1) := by decide +kernel
theorem dX11_line_104 : decode cX11_line 104 = .ok (.iconst 0, 1) := by decide +kernel
theorem dX11_line_105 : decode cX11_line 105 = .ok (.aload_n 0, 1) := by decide +kernel
theorem dX11_line_106 : decode cX11_line 106 = .ok (.getfield 253, 3) := by decide +kernel
theorem dX11_line_109 : decode cX11_line 109 = .ok (.iconst (-1), 1) := by decide +kernel
theorem dX11_line_110 : decode cX11_line 110 = .ok (.if_icmp .eq 7, 3) := by decide +kernel
theorem dX11_line_113 : decode cX11_line 113 = .ok (.iconst 1, 1) := by decide +kernel
theorem dX11_line_114 : decode cX11_line 114 = .ok (.goto 4, 3) := by decide +kernel
theorem dX11_line_117 : decode cX11_line 117 = .ok (.iconst 0, 1) := by decide +kernel
theorem dX11_line_118 : decode cX11_line 118 = .ok (.invokevirtual 240, 3) := by decide +kernel
theorem dX11_line_121 : decode cX11_line 121 = .ok (.ifCond .eq 70, 3) := by decide +kernel
theorem dX11_line_124 : decode cX11_line 124 = .ok (.aload_n 0, 1) := by decide +kernel
theorem dX11_line_125 : decode cX11_line 125 = .ok (.aload_n 0, 1) := by decide +kernel
theorem dX11_line_126 : decode cX11_line 126 = .ok (.getfield 168, 3) := by decide +kernel
theorem dX11_line_129 : decode cX11_line 129 = .ok (.putfield 253, 3) := by decide +kernel
theorem dX11_line_132 : decode cX11_line 132 = .ok (.aload_n 0, 1) := by decide +kernel
theorem dX11_line_133 : decode cX11_line 133 = .ok (.iconst 0, 1) := by decide +kernel
theorem dX11_line_134 : decode cX11_line 134 = .ok (.iconst 5, 1) := by decide +kernel
theorem dX11_line_135 : decode cX11_line 135 = .ok (.invokevirtual 256, 3) := by decide +kernel
theorem dX11_line_138 : decode cX11_line 138 = .ok (.goto 53, 3) := by decide +kernel
theorem dX11_line_141 : decode cX11_line 141 = .ok (.iload_n 1, 1) := by decide +kernel
theorem dX11_line_142 : decode cX11_line 142 = .ok (.bipush 13, 2) := by decide +kernel
theorem dX11_line_144 : decode cX11_line 144 = .ok (.if_icmp .ne 42, 3) := by decide +kernel
theorem dX11_line_147 : decode cX11_line 147 = .ok (.aload_n 0, 1) := by decide +kernel
theorem dX11_line_148 : decode cX11_line 148 = .ok (.iconst 0, 1) := by decide +kernel
theorem dX11_line_149 : decode cX11_line 149 = .ok (.aload_n 0, 1) := by decide +kernel
theorem dX11_line_150 : decode cX11_line 150 = .ok (.getfield 260, 3) := by decide +kernel
theorem dX11_line_153 : decode cX11_line 153 = .ok (.iconst (-1), 1) := by decide +kernel
theorem dX11_line_154 : decode cX11_line 154 = .ok (.if_icmp .eq 7, 3) := by decide +kernel
theorem dX11_line_157 : decode cX11_line 157 = .ok (.iconst 1, 1) := by decide +kernel
theorem dX11_line_158 : decode cX11_line 158 = .ok (.goto 4, 3) := by decide +kernel
theorem dX11_line_161 : decode cX11_line 161 = .ok (.iconst 0, 1) := by decide +kernel
theorem dX11_line_162 : decode cX11_line 162 = .ok (.invokevirtual 240, 3) := by decide +kernel
theorem dX11_line_165 : decode cX11_line 165 = .ok (.ifCond .eq 26, 3) := by decide +kernel
theorem dX11_line_168 : decode cX11_line 168 = .ok (.aload_n 0, 1) := by decide +kernel
theorem dX11_line_169 : decode cX11_line 169 = .ok (.aload_n 0, 1) := by decide +kernel
theorem dX11_line_170 : decode cX11_line 170 = .ok (.getfield 168, 3) := by decide +kernel
theorem dX11_line_173 : decode cX11_line 173 = .ok (.putfield 260, 3) := by decide +kernel
theorem dX11_line_176 : decode cX11_line 176 = .ok (.aload_n 0, 1) := by decide +kernel
theorem dX11_line_177 : decode cX11_line 177 = .ok (.iconst 4, 1) := by decide +kernel
theorem dX11_line_178 : decode cX11_line 178 = .ok (.bipush 8, 2) := by decide +kernel
theorem dX11_line_180 : decode cX11_line 180 = .ok (.invokevirtual 256, 3) := by decide +kernel
theorem dX11_line_183 : decode cX11_line 183 = .ok (.goto 8, 3) := by decide +kernel
theorem dX11_line_186 : decode cX11_line 186 = .ok (.aload_n 0, 1) := by decide +kernel
theorem dX11_line_187 : decode cX11_line 187 = .ok (.iconst 1, 1) := by decide +kernel
theorem dX11_line_188 : decode cX11_line 188 = .ok (.invokevirtual 165, 3) := by decide +kernel
theorem dX11_line_191 : decode cX11_line 191 = .ok (.aload_n 0, 1) := by decide +kernel
theorem dX11_line_192 : decode cX11_line 192 = .ok (.aload_n 0, 1) := by decide +kernel
theorem dX11_line_193 : decode cX11_line 193 = .ok (.bipush 59, 2) := by decide +kernel
theorem dX11_line_195 : decode cX11_line 195 = .ok (.invokevirtual 196, 3) := by decide +kernel
theorem dX11_line_198 : decode cX11_line 198 = .ok (.invokevirtual 263, 3) := by decide +kernel
theorem dX11_line_201 : decode cX11_line 201 = .ok (.return_, 1) := by decide +kernel
theorem dX11_cellar_0 : decode cX11_cellar 0 = .ok (.aload_n 0, 1) := by decide +kernel
theorem dX11_cellar_1 : decode cX11_cellar 1 = .ok (.iconst 0, 1) := by decide +kernel
theorem dX11_cellar_2 : decode cX11_cellar 2 = .ok (.putfield 99, 3) := by decide +kernel
theorem dX11_cellar_5 : decode cX11_cellar 5 = .ok (.aload_n 0, 1) := by decide +kernel
theorem dX11_cellar_6 : decode cX11_cellar 6 = .ok (.iload_n 1, 1) := by decide +kernel
theorem dX11_cellar_7 : decode cX11_cellar 7 = .ok (.ifCond .lt 15, 3) := by decide +kernel
theorem dX11_cellar_10 : decode cX11_cellar 10 = .ok (.iload_n 1, 1) := by decide +kernel
theorem dX11_cellar_11 : decode cX11_cellar 11 = .ok (.aload_n 0, 1) := by decide +kernel
theorem dX11_cellar_12 : decode cX11_cellar 12 = .ok (.getfield 102, 3) := by decide +kernel
theorem dX11_cellar_15 : decode cX11_cellar 15 = .ok (.if_icmp .gt 7, 3) := by decide +kernel
theorem dX11_cellar_18 : decode cX11_cellar 18 = .ok (.iconst 1, 1) := by decide +kernel
theorem dX11_cellar_19 : decode cX11_cellar 19 = .ok (.goto 4, 3) := by decide +kernel
theorem dX11_cellar_22 : decode cX11_cellar 22 = .ok (.iconst 0, 1) := by decide +kernel
theorem dX11_cellar_23 : decode cX11_cellar 23 = .ok (.iconst 1, 1) := by decide +kernel
theorem dX11_cellar_24 : decode cX11_cellar 24 = .ok (.invokevirtual 266, 3) := by decide +kernel
theorem dX11_cellar_27 : decode cX11_cellar 27 = .ok (.ifCond .ne 5, 3) := by decide +kernel
theorem dX11_cellar_30 : decode cX11_cellar 30 = .ok (.iconst 0, 1) := by decide +kernel
theorem dX11_cellar_31 : decode cX11_cellar 31 = .ok (.ireturn, 1) := by decide +kernel
theorem dX11_cellar_32 : decode cX11_cellar 32 = .ok (.aload_n 0, 1) := by decide +kernel
theorem dX11_cellar_33 : decode cX11_cellar 33 = .ok (.iconst 0, 1) := by decide +kernel
theorem dX11_cellar_34 : decode cX11_cellar 34 = .ok (.putfield 102, 3) := by decide +kernel
theorem dX11_cellar_37 : decode cX11_cellar 37 = .ok (.aload_n 0, 1) := by decide +kernel
theorem dX11_cellar_38 : decode cX11_cellar 38 = .ok (.iconst (-1), 1) := by decide +kernel
theorem dX11_cellar_39 : decode cX11_cellar 39 = .ok (.putfield 26, 3) := by decide +kernel
theorem dX11_cellar_42 : decode cX11_cellar 42 = .ok (.aload_n 0, 1) := by decide +kernel
theorem dX11_cellar_43 : decode cX11_cellar 43 = .ok (.iconst 0, 1) := by decide +kernel
theorem dX11_cellar_44 : decode cX11_cellar 44 = .ok (.putfield 155, 3) := by decide +kernel
theorem dX11_cellar_47 : decode cX11_cellar 47 = .ok (.aload_n 0, 1) := by decide +kernel
theorem dX11_cellar_48 : decode cX11_cellar 48 = .ok (.iload_n 1, 1) := by decide +kernel
theorem dX11_cellar_49 : decode cX11_cellar 49 = .ok (.putfield 109, 3) := by decide +kernel
theorem dX11_cellar_52 : decode cX11_cellar 52 = .ok (.aload_n 0, 1) := by decide +kernel
theorem dX11_cellar_53 : decode cX11_cellar 53 = .ok (.iconst 0, 1) := by decide +kernel
theorem dX11_cellar_54 : decode cX11_cellar 54 = .ok (.putfield 112, 3) := by decide +kernel
theorem dX11_cellar_57 : decode cX11_cellar 57 = .ok (.aload_n 0, 1) := by decide +kernel
theorem dX11_cellar_58 : decode cX11_cellar 58 = .ok (.iconst 0, 1) := by decide +kernel
theorem dX11_cellar_59 : decode cX11_cellar 59 = .ok (.putfield 221, 3) := by decide +kernel
theorem dX11_cellar_62 : decode cX11_cellar 62 = .ok (.aload_n 0, 1) := by decide +kernel
theorem dX11_cellar_63 : decode cX11_cellar 63 = .ok (.iconst 0, 1) := by decide +kernel
theorem dX11_cellar_64 : decode cX11_cellar 64 = .ok (.putfield 234, 3) := by decide +kernel
theorem dX11_cellar_67 : decode cX11_cellar 67 = .ok (.aload_n 0, 1) := by decide +kernel
theorem dX11_cellar_68 : decode cX11_cellar 68 = .ok (.iconst (-1), 1) := by decide +kernel
theorem dX11_cellar_69 : decode cX11_cellar 69 = .ok (.putfield 253, 3) := by decide +kernel
theorem dX11_cellar_72 : decode cX11_cellar 72 = .ok (.aload_n 0, 1) := by decide +kernel
theorem dX11_cellar_73 : decode cX11_cellar 73 = .ok (.iconst (-1), 1) := by decide +kernel
theorem dX11_cellar_74 : decode cX11_cellar 74 = .ok (.putfield 260, 3) := by decide +kernel
theorem dX11_cellar_77 : decode cX11_cellar 77 = .ok (.iconst 0, 1) := by decide +kernel
theorem dX11_cellar_78 : decode cX11_cellar 78 = .ok (.istore_n 2, 1) := by decide +kernel
theorem dX11_cellar_79 : decode cX11_cellar 79 = .ok (.iload_n 2, 1) := by decide +kernel
theorem dX11_cellar_80 : decode cX11_cellar 80 = .ok (.bipush 79, 2) := by decide +kernel
theorem dX11_cellar_82 : decode cX11_cellar 82 = .ok (.if_icmp .ge 16, 3) := by decide +kernel
theorem dX11_cellar_85 : decode cX11_cellar 85 = .ok (.aload_n 0, 1) := by decide +kernel
theorem dX11_cellar_86 : decode cX11_cellar 86 = .ok (.getfield 35, 3) := by decide +kernel
theorem dX11_cellar_89 : decode cX11_cellar 89 = .ok (.iload_n 2, 1) := by decide +kernel
theorem dX11_cellar_90 : decode cX11_cellar 90 = .ok (.iconst 0, 1) := by decide +kernel
theorem dX11_cellar_91 : decode cX11_cellar 91 = .ok (.iastore, 1) := by decide +kernel
theorem dX11_cellar_92 : decode cX11_cellar 92 = .ok (.iinc 2 1, 3) := by decide +kernel
theorem dX11_cellar_95 : decode cX11_cellar 95 = .ok (.goto (-16), 3) := by decide +kernel
theorem dX11_cellar_98 : decode cX11_cellar 98 = .ok (.aload_n 0, 1) := by decide +kernel
theorem dX11_cellar_99 : decode cX11_cellar 99 = .ok (.iconst 0, 1) := by decide +kernel
theorem dX11_cellar_100 : decode cX11_cellar 100 = .ok (.putfield 168, 3) := by decide +kernel
theorem dX11_cellar_103 : decode cX11_cellar 103 = .ok (.aload_n 0, 1) := by decide +kernel
theorem dX11_cellar_104 : decode cX11_cellar 104 = .ok (.invokevirtual 162, 3) := by decide +kernel
theorem dX11_cellar_107 : decode cX11_cellar 107 = .ok (.aload_n 0, 1) := by decide +kernel
theorem dX11_cellar_108 : decode cX11_cellar 108 = .ok (.invokevirtual 158, 3) := by decide +kernel
theorem dX11_cellar_111 : decode cX11_cellar 111 = .ok (.ifCond .eq 17, 3) := by decide +kernel
theorem dX11_cellar_114 : decode cX11_cellar 114 = .ok (.aload_n 0, 1) := by decide +kernel
theorem dX11_cellar_115 : decode cX11_cellar 115 = .ok (.getfield 132, 3) := by decide +kernel
theorem dX11_cellar_118 : decode cX11_cellar 118 = .ok (.ifCond .eq 10, 3) := by decide +kernel
theorem dX11_cellar_121 : decode cX11_cellar 121 = .ok (.aload_n 0, 1) := by decide +kernel
theorem dX11_cellar_122 : decode cX11_cellar 122 = .ok (.invokevirtual 270, 3) := by decide +kernel
theorem dX11_cellar_125 : decode cX11_cellar 125 = .ok (.goto (-18), 3) := by decide +kernel
theorem dX11_cellar_128 : decode cX11_cellar 128 = .ok (.aload_n 0, 1) := by decide +kernel
theorem dX11_cellar_129 : decode cX11_cellar 129 = .ok (.invokevirtual 158, 3) := by decide +kernel
theorem dX11_cellar_132 : decode cX11_cellar 132 = .ok (.ifCond .ne 18, 3) := by decide +kernel
theorem dX11_cellar_135 : decode cX11_cellar 135 = .ok (.aload_n 0, 1) := by decide +kernel
theorem dX11_cellar_136 : decode cX11_cellar 136 = .ok (.getfield 29, 3) := by decide +kernel
theorem dX11_cellar_139 : decode cX11_cellar 139 = .ok (.iconst 0, 1) := by decide +kernel
theorem dX11_cellar_140 : decode cX11_cellar 140 = .ok (.dup2, 1) := by decide +kernel
theorem dX11_cellar_141 : decode cX11_cellar 141 = .ok (.iaload, 1) := by decide +kernel
theorem dX11_cellar_142 : decode cX11_cellar 142 = .ok (.iconst 1, 1) := by decide +kernel
theorem dX11_cellar_143 : decode cX11_cellar 143 = .ok (.iadd, 1) := by decide +kernel
theorem dX11_cellar_144 : decode cX11_cellar 144 = .ok (.iastore, 1) := by decide +kernel
theorem dX11_cellar_145 : decode cX11_cellar 145 = .ok (.aload_n 0, 1) := by decide +kernel
theorem dX11_cellar_146 : decode cX11_cellar 146 = .ok (.getfield 155, 3) := by decide +kernel
theorem dX11_cellar_149 : decode cX11_cellar 149 = .ok (.ireturn, 1) := by decide +kernel
theorem dX11_cellar_150 : decode cX11_cellar 150 = .ok (.aload_n 0, 1) := by decide +kernel
theorem dX11_cellar_151 : decode cX11_cellar 151 = .ok (.aload_n 0, 1) := by decide +kernel
theorem dX11_cellar_152 : decode cX11_cellar 152 = .ok (.getfield 221, 3) := by decide +kernel
theorem dX11_cellar_155 : decode cX11_cellar 155 = .ok (.putfield 273, 3) := by decide +kernel
theorem dX11_cellar_158 : decode cX11_cellar 158 = .ok (.aload_n 0, 1) := by decide +kernel
theorem dX11_cellar_159 : decode cX11_cellar 159 = .ok (.aload_n 0, 1) := by decide +kernel
theorem dX11_cellar_160 : decode cX11_cellar 160 = .ok (.getfield 234, 3) := by decide +kernel
theorem dX11_cellar_163 : decode cX11_cellar 163 = .ok (.putfield 276, 3) := by decide +kernel
theorem dX11_cellar_166 : decode cX11_cellar 166 = .ok (.aload_n 0, 1) := by decide +kernel
theorem dX11_cellar_167 : decode cX11_cellar 167 = .ok (.aload_n 0, 1) := by decide +kernel
theorem dX11_cellar_168 : decode cX11_cellar 168 = .ok (.getfield 253, 3) := by decide +kernel
theorem dX11_cellar_171 : decode cX11_cellar 171 = .ok (.putfield 9, 3) := by decide +kernel
theorem dX11_cellar_174 : decode cX11_cellar 174 = .ok (.aload_n 0, 1) := by decide +kernel
theorem dX11_cellar_175 : decode cX11_cellar 175 = .ok (.aload_n 0, 1) := by decide +kernel
theorem dX11_cellar_176 : decode cX11_cellar 176 = .ok (.getfield 260, 3) := by decide +kernel
theorem dX11_cellar_179 : decode cX11_cellar 179 = .ok (.putfield 13, 3) := by decide +kernel
theorem dX11_cellar_182 : decode cX11_cellar 182 = .ok (.aload_n 0, 1) := by decide +kernel
theorem dX11_cellar_183 : decode cX11_cellar 183 = .ok (.aload_n 0, 1) := by decide +kernel
theorem dX11_cellar_184 : decode cX11_cellar 184 = .ok (.getfield 32, 3) := by decide +kernel
theorem dX11_cellar_187 : decode cX11_cellar 187 = .ok (.aload_n 0, 1) := by decide +kernel
theorem dX11_cellar_188 : decode cX11_cellar 188 = .ok (.getfield 16, 3) := by decide +kernel
theorem dX11_cellar_191 : decode cX11_cellar 191 = .ok (.invokevirtual 279, 3) := by decide +kernel
theorem dX11_cellar_194 : decode cX11_cellar 194 = .ok (.aload_n 0, 1) := by decide +kernel
theorem dX11_cellar_195 : decode cX11_cellar 195 = .ok (.aload_n 0, 1) := by decide +kernel
theorem dX11_cellar_196 : decode cX11_cellar 196 = .ok (.getfield 38, 3) := by decide +kernel
theorem dX11_cellar_199 : decode cX11_cellar 199 = .ok (.aload_n 0, 1) := by decide +kernel
theorem dX11_cellar_200 : decode cX11_cellar 200 = .ok (.getfield 20, 3) := by decide +kernel
theorem dX11_cellar_203 : decode cX11_cellar 203 = .ok (.invokevirtual 279, 3) := by decide +kernel
theorem dX11_cellar_206 : decode cX11_cellar 206 = .ok (.iconst 0, 1) := by decide +kernel
theorem dX11_cellar_207 : decode cX11_cellar 207 = .ok (.istore_n 2, 1) := by decide +kernel
theorem dX11_cellar_208 : decode cX11_cellar 208 = .ok (.iload_n 2, 1) := by decide +kernel
theorem dX11_cellar_209 : decode cX11_cellar 209 = .ok (.bipush 79, 2) := by decide +kernel
theorem dX11_cellar_211 : decode cX11_cellar 211 = .ok (.if_icmp .ge 21, 3) := by decide +kernel
theorem dX11_cellar_214 : decode cX11_cellar 214 = .ok (.aload_n 0, 1) := by decide +kernel
theorem dX11_cellar_215 : decode cX11_cellar 215 = .ok (.getfield 48, 3) := by decide +kernel
theorem dX11_cellar_218 : decode cX11_cellar 218 = .ok (.iload_n 2, 1) := by decide +kernel
theorem dX11_cellar_219 : decode cX11_cellar 219 = .ok (.aload_n 0, 1) := by decide +kernel
theorem dX11_cellar_220 : decode cX11_cellar 220 = .ok (.getfield 35, 3) := by decide +kernel
theorem dX11_cellar_223 : decode cX11_cellar 223 = .ok (.iload_n 2, 1) := by decide +kernel
theorem dX11_cellar_224 : decode cX11_cellar 224 = .ok (.iaload, 1) := by decide +kernel
theorem dX11_cellar_225 : decode cX11_cellar 225 = .ok (.iastore, 1) := by decide +kernel
theorem dX11_cellar_226 : decode cX11_cellar 226 = .ok (.iinc 2 1, 3) := by decide +kernel
theorem dX11_cellar_229 : decode cX11_cellar 229 = .ok (.goto (-21), 3) := by decide +kernel
theorem dX11_cellar_232 : decode cX11_cellar 232 = .ok (.aload_n 0, 1) := by decide +kernel
theorem dX11_cellar_233 : decode cX11_cellar 233 = .ok (.iconst 0, 1) := by decide +kernel
theorem dX11_cellar_234 : decode cX11_cellar 234 = .ok (.putfield 283, 3) := by decide +kernel
theorem dX11_cellar_237 : decode cX11_cellar 237 = .ok (.aload_n 0, 1) := by decide +kernel
theorem dX11_cellar_238 : decode cX11_cellar 238 = .ok (.iconst 0, 1) := by decide +kernel
theorem dX11_cellar_239 : decode cX11_cellar 239 = .ok (.putfield 286, 3) := by decide +kernel
theorem dX11_cellar_242 : decode cX11_cellar 242 = .ok (.aload_n 0, 1) := by decide +kernel
theorem dX11_cellar_243 : decode cX11_cellar 243 = .ok (.iconst 0, 1) := by decide +kernel
theorem dX11_cellar_244 : decode cX11_cellar 244 = .ok (.putfield 289, 3) := by decide +kernel
theorem dX11_cellar_247 : decode cX11_cellar 247 = .ok (.iconst 0, 1) := by decide +kernel
theorem dX11_cellar_248 : decode cX11_cellar 248 = .ok (.ireturn, 1) := by decide +kernel
theorem dX11_fault_0 : decode cX11_fault 0 = .ok (.aload_n 0, 1) := by decide +kernel
theorem dX11_fault_1 : decode cX11_fault 1 = .ok (.iconst 0, 1) := by decide +kernel
theorem dX11_fault_2 : decode cX11_fault 2 = .ok (.putfield 99, 3) := by decide +kernel
theorem dX11_fault_5 : decode cX11_fault 5 = .ok (.aload_n 0, 1) := by decide +kernel
theorem dX11_fault_6 : decode cX11_fault 6 = .ok (.getfield 26, 3) := by decide +kernel
theorem dX11_fault_9 : decode cX11_fault 9 = .ok (.ireturn, 1) := by decide +kernel
theorem dX11_keeps_0 : decode cX11_keeps 0 = .ok (.aload_n 0, 1) := by decide +kernel
theorem dX11_keeps_1 : decode cX11_keeps 1 = .ok (.getfield 283, 3) := by decide +kernel
theorem dX11_keeps_4 : decode cX11_keeps 4 = .ok (.bipush 40, 2) := by decide +kernel
theorem dX11_keeps_6 : decode cX11_keeps 6 = .ok (.if_icmp .ne 44, 3) := by decide +kernel
theorem dX11_keeps_9 : decode cX11_keeps 9 = .ok (.bipush 79, 2) := by decide +kernel
theorem dX11_keeps_11 : decode cX11_keeps 11 = .ok (.istore_n 1, 1) := by decide +kernel
theorem dX11_keeps_12 : decode cX11_keeps 12 = .ok (.iload_n 1, 1) := by decide +kernel
theorem dX11_keeps_13 : decode cX11_keeps 13 = .ok (.sipush 3160, 3) := by decide +kernel
theorem dX11_keeps_16 : decode cX11_keeps 16 = .ok (.if_icmp .ge 24, 3) := by decide +kernel
theorem dX11_keeps_19 : decode cX11_keeps 19 = .ok (.aload_n 0, 1) := by decide +kernel
theorem dX11_keeps_20 : decode cX11_keeps 20 = .ok (.getfield 51, 3) := by decide +kernel
theorem dX11_keeps_23 : decode cX11_keeps 23 = .ok (.iload_n 1, 1) := by decide +kernel
theorem dX11_keeps_24 : decode cX11_keeps 24 = .ok (.bipush 79, 2) := by decide +kernel
theorem dX11_keeps_26 : decode cX11_keeps 26 = .ok (.isub, 1) := by decide +kernel
theorem dX11_keeps_27 : decode cX11_keeps 27 = .ok (.aload_n 0, 1) := by decide +kernel
theorem dX11_keeps_28 : decode cX11_keeps 28 = .ok (.getfield 51, 3) := by decide +kernel
theorem dX11_keeps_31 : decode cX11_keeps 31 = .ok (.iload_n 1, 1) := by decide +kernel
theorem dX11_keeps_32 : decode cX11_keeps 32 = .ok (.iaload, 1) := by decide +kernel
theorem dX11_keeps_33 : decode cX11_keeps 33 = .ok (.iastore, 1) := by decide +kernel
theorem dX11_keeps_34 : decode cX11_keeps 34 = .ok (.iinc 1 1, 3) := by decide +kernel
theorem dX11_keeps_37 : decode cX11_keeps 37 = .ok (.goto (-25), 3) := by decide +kernel
theorem dX11_keeps_40 : decode cX11_keeps 40 = .ok (.aload_n 0, 1) := by decide +kernel
theorem dX11_keeps_41 : decode cX11_keeps 41 = .ok (.dup, 1) := by decide +kernel
theorem dX11_keeps_42 : decode cX11_keeps 42 = .ok (.getfield 283, 3) := by decide +kernel
theorem dX11_keeps_45 : decode cX11_keeps 45 = .ok (.iconst 1, 1) := by decide +kernel
theorem dX11_keeps_46 : decode cX11_keeps 46 = .ok (.isub, 1) := by decide +kernel
theorem dX11_keeps_47 : decode cX11_keeps 47 = .ok (.putfield 283, 3) := by decide +kernel
theorem dX11_keeps_50 : decode cX11_keeps 50 = .ok (.iconst 0, 1) := by decide +kernel
theorem dX11_keeps_51 : decode cX11_keeps 51 = .ok (.istore_n 1, 1) := by decide +kernel
theorem dX11_keeps_52 : decode cX11_keeps 52 = .ok (.iload_n 1, 1) := by decide +kernel
theorem dX11_keeps_53 : decode cX11_keeps 53 = .ok (.bipush 79, 2) := by decide +kernel
theorem dX11_keeps_55 : decode cX11_keeps 55 = .ok (.if_icmp .ge 29, 3) := by decide +kernel
theorem dX11_keeps_58 : decode cX11_keeps 58 = .ok (.aload_n 0, 1) := by decide +kernel
theorem dX11_keeps_59 : decode cX11_keeps 59 = .ok (.getfield 51, 3) := by decide +kernel
theorem dX11_keeps_62 : decode cX11_keeps 62 = .ok (.bipush 79, 2) := by decide +kernel
theorem dX11_keeps_64 : decode cX11_keeps 64 = .ok (.aload_n 0, 1) := by decide +kernel
theorem dX11_keeps_65 : decode cX11_keeps 65 = .ok (.getfield 283, 3) := by decide +kernel
theorem dX11_keeps_68 : decode cX11_keeps 68 = .ok (.imul, 1) := by decide +kernel
theorem dX11_keeps_69 : decode cX11_keeps 69 = .ok (.iload_n 1, 1) := by decide +kernel
theorem dX11_keeps_70 : decode cX11_keeps 70 = .ok (.iadd, 1) := by decide +kernel
theorem dX11_keeps_71 : decode cX11_keeps 71 = .ok (.aload_n 0, 1) := by decide +kernel
theorem dX11_keeps_72 : decode cX11_keeps 72 = .ok (.getfield 48, 3) := by decide +kernel
theorem dX11_keeps_75 : decode cX11_keeps 75 = .ok (.iload_n 1, 1) := by decide +kernel
theorem dX11_keeps_76 : decode cX11_keeps 76 = .ok (.iaload, 1) := by decide +kernel
theorem dX11_keeps_77 : decode cX11_keeps 77 = .ok (.iastore, 1) := by decide +kernel
theorem dX11_keeps_78 : decode cX11_keeps 78 = .ok (.iinc 1 1, 3) := by decide +kernel
theorem dX11_keeps_81 : decode cX11_keeps 81 = .ok (.goto (-29), 3) := by decide +kernel
theorem dX11_keeps_84 : decode cX11_keeps 84 = .ok (.aload_n 0, 1) := by decide +kernel
theorem dX11_keeps_85 : decode cX11_keeps 85 = .ok (.dup, 1) := by decide +kernel
theorem dX11_keeps_86 : decode cX11_keeps 86 = .ok (.getfield 283, 3) := by decide +kernel
theorem dX11_keeps_89 : decode cX11_keeps 89 = .ok (.iconst 1, 1) := by decide +kernel
theorem dX11_keeps_90 : decode cX11_keeps 90 = .ok (.iadd, 1) := by decide +kernel
theorem dX11_keeps_91 : decode cX11_keeps 91 = .ok (.putfield 283, 3) := by decide +kernel
theorem dX11_keeps_94 : decode cX11_keeps 94 = .ok (.return_, 1) := by decide +kernel
theorem dX11_refuses_0 : decode cX11_refuses 0 = .ok (.aload_n 0, 1) := by decide +kernel
theorem dX11_refuses_1 : decode cX11_refuses 1 = .ok (.getfield 29, 3) := by decide +kernel
theorem dX11_refuses_4 : decode cX11_refuses 4 = .ok (.iload_n 1, 1) := by decide +kernel
theorem dX11_refuses_5 : decode cX11_refuses 5 = .ok (.dup2, 1) := by decide +kernel
theorem dX11_refuses_6 : decode cX11_refuses 6 = .ok (.iaload, 1) := by decide +kernel
theorem dX11_refuses_7 : decode cX11_refuses 7 = .ok (.iconst 1, 1) := by decide +kernel
theorem dX11_refuses_8 : decode cX11_refuses 8 = .ok (.iadd, 1) := by decide +kernel
theorem dX11_refuses_9 : decode cX11_refuses 9 = .ok (.iastore, 1) := by decide +kernel
theorem dX11_refuses_10 : decode cX11_refuses 10 = .ok (.iconst (-1), 1) := by decide +kernel
theorem dX11_refuses_11 : decode cX11_refuses 11 = .ok (.ireturn, 1) := by decide +kernel
theorem dX11_undo_0 : decode cX11_undo 0 = .ok (.aload_n 0, 1) := by decide +kernel
theorem dX11_undo_1 : decode cX11_undo 1 = .ok (.iconst 0, 1) := by decide +kernel
theorem dX11_undo_2 : decode cX11_undo 2 = .ok (.putfield 99, 3) := by decide +kernel
theorem dX11_undo_5 : decode cX11_undo 5 = .ok (.aload_n 0, 1) := by decide +kernel
theorem dX11_undo_6 : decode cX11_undo 6 = .ok (.getfield 283, 3) := by decide +kernel
theorem dX11_undo_9 : decode cX11_undo 9 = .ok (.ifCond .ne 5, 3) := by decide +kernel
theorem dX11_undo_12 : decode cX11_undo 12 = .ok (.iconst (-1), 1) := by decide +kernel
theorem dX11_undo_13 : decode cX11_undo 13 = .ok (.ireturn, 1) := by decide +kernel
theorem dX11_undo_14 : decode cX11_undo 14 = .ok (.aload_n 0, 1) := by decide +kernel
theorem dX11_undo_15 : decode cX11_undo 15 = .ok (.dup, 1) := by decide +kernel
theorem dX11_undo_16 : decode cX11_undo 16 = .ok (.getfield 283, 3) := by decide +kernel
theorem dX11_undo_19 : decode cX11_undo 19 = .ok (.iconst 1, 1) := by decide +kernel
theorem dX11_undo_20 : decode cX11_undo 20 = .ok (.isub, 1) := by decide +kernel
theorem dX11_undo_21 : decode cX11_undo 21 = .ok (.putfield 283, 3) := by decide +kernel
theorem dX11_undo_24 : decode cX11_undo 24 = .ok (.iconst 0, 1) := by decide +kernel
theorem dX11_undo_25 : decode cX11_undo 25 = .ok (.istore_n 1, 1) := by decide +kernel
theorem dX11_undo_26 : decode cX11_undo 26 = .ok (.iload_n 1, 1) := by decide +kernel
theorem dX11_undo_27 : decode cX11_undo 27 = .ok (.bipush 79, 2) := by decide +kernel
theorem dX11_undo_29 : decode cX11_undo 29 = .ok (.if_icmp .ge 29, 3) := by decide +kernel
theorem dX11_undo_32 : decode cX11_undo 32 = .ok (.aload_n 0, 1) := by decide +kernel
theorem dX11_undo_33 : decode cX11_undo 33 = .ok (.getfield 48, 3) := by decide +kernel
theorem dX11_undo_36 : decode cX11_undo 36 = .ok (.iload_n 1, 1) := by decide +kernel
theorem dX11_undo_37 : decode cX11_undo 37 = .ok (.aload_n 0, 1) := by decide +kernel
theorem dX11_undo_38 : decode cX11_undo 38 = .ok (.getfield 51, 3) := by decide +kernel
theorem dX11_undo_41 : decode cX11_undo 41 = .ok (.bipush 79, 2) := by decide +kernel
theorem dX11_undo_43 : decode cX11_undo 43 = .ok (.aload_n 0, 1) := by decide +kernel
theorem dX11_undo_44 : decode cX11_undo 44 = .ok (.getfield 283, 3) := by decide +kernel
theorem dX11_undo_47 : decode cX11_undo 47 = .ok (.imul, 1) := by decide +kernel
theorem dX11_undo_48 : decode cX11_undo 48 = .ok (.iload_n 1, 1) := by decide +kernel
theorem dX11_undo_49 : decode cX11_undo 49 = .ok (.iadd, 1) := by decide +kernel
theorem dX11_undo_50 : decode cX11_undo 50 = .ok (.iaload, 1) := by decide +kernel
theorem dX11_undo_51 : decode cX11_undo 51 = .ok (.iastore, 1) := by decide +kernel
theorem dX11_undo_52 : decode cX11_undo 52 = .ok (.iinc 1 1, 3) := by decide +kernel
theorem dX11_undo_55 : decode cX11_undo 55 = .ok (.goto (-29), 3) := by decide +kernel
theorem dX11_undo_58 : decode cX11_undo 58 = .ok (.aload_n 0, 1) := by decide +kernel
theorem dX11_undo_59 : decode cX11_undo 59 = .ok (.getfield 283, 3) := by decide +kernel
theorem dX11_undo_62 : decode cX11_undo 62 = .ok (.ireturn, 1) := by decide +kernel
theorem dX11_tries_0 : decode cX11_tries 0 = .ok (.iconst 0, 1) := by decide +kernel
theorem dX11_tries_1 : decode cX11_tries 1 = .ok (.istore_n 1, 1) := by decide +kernel
theorem dX11_tries_2 : decode cX11_tries 2 = .ok (.iload_n 1, 1) := by decide +kernel
theorem dX11_tries_3 : decode cX11_tries 3 = .ok (.bipush 79, 2) := by decide +kernel
theorem dX11_tries_5 : decode cX11_tries 5 = .ok (.if_icmp .ge 24, 3) := by decide +kernel
theorem dX11_tries_8 : decode cX11_tries 8 = .ok (.aload_n 0, 1) := by decide +kernel
theorem dX11_tries_9 : decode cX11_tries 9 = .ok (.getfield 48, 3) := by decide +kernel
theorem dX11_tries_12 : decode cX11_tries 12 = .ok (.bipush 79, 2) := by decide +kernel
theorem dX11_tries_14 : decode cX11_tries 14 = .ok (.iload_n 1, 1) := by decide +kernel
theorem dX11_tries_15 : decode cX11_tries 15 = .ok (.iadd, 1) := by decide +kernel
theorem dX11_tries_16 : decode cX11_tries 16 = .ok (.aload_n 0, 1) := by decide +kernel
theorem dX11_tries_17 : decode cX11_tries 17 = .ok (.getfield 48, 3) := by decide +kernel
theorem dX11_tries_20 : decode cX11_tries 20 = .ok (.iload_n 1, 1) := by decide +kernel
theorem dX11_tries_21 : decode cX11_tries 21 = .ok (.iaload, 1) := by decide +kernel
theorem dX11_tries_22 : decode cX11_tries 22 = .ok (.iastore, 1) := by decide +kernel
theorem dX11_tries_23 : decode cX11_tries 23 = .ok (.iinc 1 1, 3) := by decide +kernel
theorem dX11_tries_26 : decode cX11_tries 26 = .ok (.goto (-24), 3) := by decide +kernel
theorem dX11_tries_29 : decode cX11_tries 29 = .ok (.return_, 1) := by decide +kernel
theorem dX11_works_0 : decode cX11_works 0 = .ok (.iload_n 0, 1) := by decide +kernel
theorem dX11_works_1 : decode cX11_works 1 = .ok (.tableswitch 105 4 10 #[43, 57, 71, 82, 93, 97, 101], 43) := by decide +kernel
theorem dX11_works_44 : decode cX11_works 44 = .ok (.iload_n 1, 1) := by decide +kernel
theorem dX11_works_45 : decode cX11_works 45 = .ok (.ifCond .eq 11, 3) := by decide +kernel
theorem dX11_works_48 : decode cX11_works 48 = .ok (.iload_n 2, 1) := by decide +kernel
theorem dX11_works_49 : decode cX11_works 49 = .ok (.ifCond .eq 7, 3) := by decide +kernel
theorem dX11_works_52 : decode cX11_works 52 = .ok (.iconst 1, 1) := by decide +kernel
theorem dX11_works_53 : decode cX11_works 53 = .ok (.goto 4, 3) := by decide +kernel
theorem dX11_works_56 : decode cX11_works 56 = .ok (.iconst 0, 1) := by decide +kernel
theorem dX11_works_57 : decode cX11_works 57 = .ok (.ireturn, 1) := by decide +kernel
theorem dX11_works_58 : decode cX11_works 58 = .ok (.iload_n 1, 1) := by decide +kernel
theorem dX11_works_59 : decode cX11_works 59 = .ok (.ifCond .ne 7, 3) := by decide +kernel
theorem dX11_works_62 : decode cX11_works 62 = .ok (.iload_n 2, 1) := by decide +kernel
theorem dX11_works_63 : decode cX11_works 63 = .ok (.ifCond .eq 7, 3) := by decide +kernel
theorem dX11_works_66 : decode cX11_works 66 = .ok (.iconst 1, 1) := by decide +kernel
theorem dX11_works_67 : decode cX11_works 67 = .ok (.goto 4, 3) := by decide +kernel
theorem dX11_works_70 : decode cX11_works 70 = .ok (.iconst 0, 1) := by decide +kernel
theorem dX11_works_71 : decode cX11_works 71 = .ok (.ireturn, 1) := by decide +kernel
theorem dX11_works_72 : decode cX11_works 72 = .ok (.iload_n 1, 1) := by decide +kernel
theorem dX11_works_73 : decode cX11_works 73 = .ok (.iload_n 2, 1) := by decide +kernel
theorem dX11_works_74 : decode cX11_works 74 = .ok (.if_icmp .ge 7, 3) := by decide +kernel
theorem dX11_works_77 : decode cX11_works 77 = .ok (.iconst 1, 1) := by decide +kernel
theorem dX11_works_78 : decode cX11_works 78 = .ok (.goto 4, 3) := by decide +kernel
theorem dX11_works_81 : decode cX11_works 81 = .ok (.iconst 0, 1) := by decide +kernel
theorem dX11_works_82 : decode cX11_works 82 = .ok (.ireturn, 1) := by decide +kernel
theorem dX11_works_83 : decode cX11_works 83 = .ok (.iload_n 1, 1) := by decide +kernel
theorem dX11_works_84 : decode cX11_works 84 = .ok (.iload_n 2, 1) := by decide +kernel
theorem dX11_works_85 : decode cX11_works 85 = .ok (.if_icmp .ne 7, 3) := by decide +kernel
theorem dX11_works_88 : decode cX11_works 88 = .ok (.iconst 1, 1) := by decide +kernel
theorem dX11_works_89 : decode cX11_works 89 = .ok (.goto 4, 3) := by decide +kernel
theorem dX11_works_92 : decode cX11_works 92 = .ok (.iconst 0, 1) := by decide +kernel
theorem dX11_works_93 : decode cX11_works 93 = .ok (.ireturn, 1) := by decide +kernel
theorem dX11_works_94 : decode cX11_works 94 = .ok (.iload_n 1, 1) := by decide +kernel
theorem dX11_works_95 : decode cX11_works 95 = .ok (.iload_n 2, 1) := by decide +kernel
theorem dX11_works_96 : decode cX11_works 96 = .ok (.iadd, 1) := by decide +kernel
theorem dX11_works_97 : decode cX11_works 97 = .ok (.ireturn, 1) := by decide +kernel
theorem dX11_works_98 : decode cX11_works 98 = .ok (.iload_n 1, 1) := by decide +kernel
theorem dX11_works_99 : decode cX11_works 99 = .ok (.iload_n 2, 1) := by decide +kernel
theorem dX11_works_100 : decode cX11_works 100 = .ok (.isub, 1) := by decide +kernel
theorem dX11_works_101 : decode cX11_works 101 = .ok (.ireturn, 1) := by decide +kernel
theorem dX11_works_102 : decode cX11_works 102 = .ok (.iload_n 1, 1) := by decide +kernel
theorem dX11_works_103 : decode cX11_works 103 = .ok (.iload_n 2, 1) := by decide +kernel
theorem dX11_works_104 : decode cX11_works 104 = .ok (.imul, 1) := by decide +kernel
theorem dX11_works_105 : decode cX11_works 105 = .ok (.ireturn, 1) := by decide +kernel
theorem dX11_works_106 : decode cX11_works 106 = .ok (.iload_n 2, 1) := by decide +kernel
theorem dX11_works_107 : decode cX11_works 107 = .ok (.ifCond .ne 7, 3) := by decide +kernel
theorem dX11_works_110 : decode cX11_works 110 = .ok (.iconst 0, 1) := by decide +kernel
theorem dX11_works_111 : decode cX11_works 111 = .ok (.goto 6, 3) := by decide +kernel
theorem dX11_works_114 : decode cX11_works 114 = .ok (.iload_n 1, 1) := by decide +kernel
theorem dX11_works_115 : decode cX11_works 115 = .ok (.iload_n 2, 1) := by decide +kernel
theorem dX11_works_116 : decode cX11_works 116 = .ok (.idiv, 1) := by decide +kernel
theorem dX11_works_117 : decode cX11_works 117 = .ok (.ireturn, 1) := by decide +kernel
theorem dX11_reckons_0 : decode cX11_reckons 0 = .ok (.iconst 0, 1) := by decide +kernel
theorem dX11_reckons_1 : decode cX11_reckons 1 = .ok (.istore_n 2, 1) := by decide +kernel
theorem dX11_reckons_2 : decode cX11_reckons 2 = .ok (.iload_n 1, 1) := by decide +kernel
theorem dX11_reckons_3 : decode cX11_reckons 3 = .ok (.istore_n 3, 1) := by decide +kernel
theorem dX11_reckons_4 : decode cX11_reckons 4 = .ok (.aload_n 0, 1) := by decide +kernel
theorem dX11_reckons_5 : decode cX11_reckons 5 = .ok (.getfield 20, 3) := by decide +kernel
theorem dX11_reckons_8 : decode cX11_reckons 8 = .ok (.iload_n 3, 1) := by decide +kernel
theorem dX11_reckons_9 : decode cX11_reckons 9 = .ok (.iaload, 1) := by decide +kernel
theorem dX11_reckons_10 : decode cX11_reckons 10 = .ok (.ifCond .eq 133, 3) := by decide +kernel
theorem dX11_reckons_13 : decode cX11_reckons 13 = .ok (.aload_n 0, 1) := by decide +kernel
theorem dX11_reckons_14 : decode cX11_reckons 14 = .ok (.getfield 20, 3) := by decide +kernel
theorem dX11_reckons_17 : decode cX11_reckons 17 = .ok (.iload_n 3, 1) := by decide +kernel
theorem dX11_reckons_18 : decode cX11_reckons 18 = .ok (.iaload, 1) := by decide +kernel
theorem dX11_reckons_19 : decode cX11_reckons 19 = .ok (.istore 4, 2) := by decide +kernel
theorem dX11_reckons_21 : decode cX11_reckons 21 = .ok (.iinc 3 1, 3) := by decide +kernel
theorem dX11_reckons_24 : decode cX11_reckons 24 = .ok (.iload 4, 2) := by decide +kernel
theorem dX11_reckons_26 : decode cX11_reckons 26 = .ok (.iconst 1, 1) := by decide +kernel
theorem dX11_reckons_27 : decode cX11_reckons 27 = .ok (.if_icmp .eq 9, 3) := by decide +kernel
theorem dX11_reckons_30 : decode cX11_reckons 30 = .ok (.iload 4, 2) := by decide +kernel
theorem dX11_reckons_32 : decode cX11_reckons 32 = .ok (.iconst 2, 1) := by decide +kernel
theorem dX11_reckons_33 : decode cX11_reckons 33 = .ok (.if_icmp .ne 44, 3) := by decide +kernel
theorem dX11_reckons_36 : decode cX11_reckons 36 = .ok (.aload_n 0, 1) := by decide +kernel
theorem dX11_reckons_37 : decode cX11_reckons 37 = .ok (.getfield 57, 3) := by decide +kernel
theorem dX11_reckons_40 : decode cX11_reckons 40 = .ok (.iload_n 2, 1) := by decide +kernel
theorem dX11_reckons_41 : decode cX11_reckons 41 = .ok (.iload 4, 2) := by decide +kernel
theorem dX11_reckons_43 : decode cX11_reckons 43 = .ok (.iconst 1, 1) := by decide +kernel
theorem dX11_reckons_44 : decode cX11_reckons 44 = .ok (.if_icmp .ne 12, 3) := by decide +kernel
theorem dX11_reckons_47 : decode cX11_reckons 47 = .ok (.aload_n 0, 1) := by decide +kernel
theorem dX11_reckons_48 : decode cX11_reckons 48 = .ok (.getfield 20, 3) := by decide +kernel
theorem dX11_reckons_51 : decode cX11_reckons 51 = .ok (.iload_n 3, 1) := by decide +kernel
theorem dX11_reckons_52 : decode cX11_reckons 52 = .ok (.iaload, 1) := by decide +kernel
theorem dX11_reckons_53 : decode cX11_reckons 53 = .ok (.goto 14, 3) := by decide +kernel
theorem dX11_reckons_56 : decode cX11_reckons 56 = .ok (.aload_n 0, 1) := by decide +kernel
theorem dX11_reckons_57 : decode cX11_reckons 57 = .ok (.getfield 54, 3) := by decide +kernel
theorem dX11_reckons_60 : decode cX11_reckons 60 = .ok (.aload_n 0, 1) := by decide +kernel
theorem dX11_reckons_61 : decode cX11_reckons 61 = .ok (.getfield 20, 3) := by decide +kernel
theorem dX11_reckons_64 : decode cX11_reckons 64 = .ok (.iload_n 3, 1) := by decide +kernel
theorem dX11_reckons_65 : decode cX11_reckons 65 = .ok (.iaload, 1) := by decide +kernel
theorem dX11_reckons_66 : decode cX11_reckons 66 = .ok (.iaload, 1) := by decide +kernel
theorem dX11_reckons_67 : decode cX11_reckons 67 = .ok (.iastore, 1) := by decide +kernel
theorem dX11_reckons_68 : decode cX11_reckons 68 = .ok (.iinc 3 1, 3) := by decide +kernel
theorem dX11_reckons_71 : decode cX11_reckons 71 = .ok (.iinc 2 1, 3) := by decide +kernel
theorem dX11_reckons_74 : decode cX11_reckons 74 = .ok (.goto 66, 3) := by decide +kernel
theorem dX11_reckons_77 : decode cX11_reckons 77 = .ok (.iload 4, 2) := by decide +kernel
theorem dX11_reckons_79 : decode cX11_reckons 79 = .ok (.iconst 3, 1) := by decide +kernel
theorem dX11_reckons_80 : decode cX11_reckons 80 = .ok (.if_icmp .ne 30, 3) := by decide +kernel
theorem dX11_reckons_83 : decode cX11_reckons 83 = .ok (.aload_n 0, 1) := by decide +kernel
theorem dX11_reckons_84 : decode cX11_reckons 84 = .ok (.getfield 57, 3) := by decide +kernel
theorem dX11_reckons_87 : decode cX11_reckons 87 = .ok (.iload_n 2, 1) := by decide +kernel
theorem dX11_reckons_88 : decode cX11_reckons 88 = .ok (.iconst 1, 1) := by decide +kernel
theorem dX11_reckons_89 : decode cX11_reckons 89 = .ok (.isub, 1) := by decide +kernel
theorem dX11_reckons_90 : decode cX11_reckons 90 = .ok (.aload_n 0, 1) := by decide +kernel
theorem dX11_reckons_91 : decode cX11_reckons 91 = .ok (.getfield 57, 3) := by decide +kernel
theorem dX11_reckons_94 : decode cX11_reckons 94 = .ok (.iload_n 2, 1) := by decide +kernel
theorem dX11_reckons_95 : decode cX11_reckons 95 = .ok (.iconst 1, 1) := by decide +kernel
theorem dX11_reckons_96 : decode cX11_reckons 96 = .ok (.isub, 1) := by decide +kernel
theorem dX11_reckons_97 : decode cX11_reckons 97 = .ok (.iaload, 1) := by decide +kernel
theorem dX11_reckons_98 : decode cX11_reckons 98 = .ok (.ifCond .ne 7, 3) := by decide +kernel
theorem dX11_reckons_101 : decode cX11_reckons 101 = .ok (.iconst 1, 1) := by decide +kernel
theorem dX11_reckons_102 : decode cX11_reckons 102 = .ok (.goto 4, 3) := by decide +kernel
theorem dX11_reckons_105 : decode cX11_reckons 105 = .ok (.iconst 0, 1) := by decide +kernel
theorem dX11_reckons_106 : decode cX11_reckons 106 = .ok (.iastore, 1) := by decide +kernel
theorem dX11_reckons_107 : decode cX11_reckons 107 = .ok (.goto 33, 3) := by decide +kernel
theorem dX11_reckons_110 : decode cX11_reckons 110 = .ok (.iinc 2 (-1), 3) := by decide +kernel
theorem dX11_reckons_113 : decode cX11_reckons 113 = .ok (.aload_n 0, 1) := by decide +kernel
theorem dX11_reckons_114 : decode cX11_reckons 114 = .ok (.getfield 57, 3) := by decide +kernel
theorem dX11_reckons_117 : decode cX11_reckons 117 = .ok (.iload_n 2, 1) := by decide +kernel
theorem dX11_reckons_118 : decode cX11_reckons 118 = .ok (.iconst 1, 1) := by decide +kernel
theorem dX11_reckons_119 : decode cX11_reckons 119 = .ok (.isub, 1) := by decide +kernel
theorem dX11_reckons_120 : decode cX11_reckons 120 = .ok (.iload 4, 2) := by decide +kernel
theorem dX11_reckons_122 : decode cX11_reckons 122 = .ok (.aload_n 0, 1) := by decide +kernel
theorem dX11_reckons_123 : decode cX11_reckons 123 = .ok (.getfield 57, 3) := by decide +kernel
theorem dX11_reckons_126 : decode cX11_reckons 126 = .ok (.iload_n 2, 1) := by decide +kernel
theorem dX11_reckons_127 : decode cX11_reckons 127 = .ok (.iconst 1, 1) := by decide +kernel
theorem dX11_reckons_128 : decode cX11_reckons 128 = .ok (.isub, 1) := by decide +kernel
theorem dX11_reckons_129 : decode cX11_reckons 129 = .ok (.iaload, 1) := by decide +kernel
theorem dX11_reckons_130 : decode cX11_reckons 130 = .ok (.aload_n 0, 1) := by decide +kernel
theorem dX11_reckons_131 : decode cX11_reckons 131 = .ok (.getfield 57, 3) := by decide +kernel
theorem dX11_reckons_134 : decode cX11_reckons 134 = .ok (.iload_n 2, 1) := by decide +kernel
theorem dX11_reckons_135 : decode cX11_reckons 135 = .ok (.iaload, 1) := by decide +kernel
theorem dX11_reckons_136 : decode cX11_reckons 136 = .ok (.invokestatic 293, 3) := by decide +kernel
theorem dX11_reckons_139 : decode cX11_reckons 139 = .ok (.iastore, 1) := by decide +kernel
theorem dX11_reckons_140 : decode cX11_reckons 140 = .ok (.goto (-136), 3) := by decide +kernel
theorem dX11_reckons_143 : decode cX11_reckons 143 = .ok (.aload_n 0, 1) := by decide +kernel
theorem dX11_reckons_144 : decode cX11_reckons 144 = .ok (.getfield 57, 3) := by decide +kernel
theorem dX11_reckons_147 : decode cX11_reckons 147 = .ok (.iconst 0, 1) := by decide +kernel
theorem dX11_reckons_148 : decode cX11_reckons 148 = .ok (.iaload, 1) := by decide +kernel
theorem dX11_reckons_149 : decode cX11_reckons 149 = .ok (.ireturn, 1) := by decide +kernel
theorem dX11_isThere_0 : decode cX11_isThere 0 = .ok (.iload_n 1, 1) := by decide +kernel
theorem dX11_isThere_1 : decode cX11_isThere 1 = .ok (.ifCond .lt 34, 3) := by decide +kernel
theorem dX11_isThere_4 : decode cX11_isThere 4 = .ok (.iload_n 1, 1) := by decide +kernel
theorem dX11_isThere_5 : decode cX11_isThere 5 = .ok (.bipush 8, 2) := by decide +kernel
theorem dX11_isThere_7 : decode cX11_isThere 7 = .ok (.idiv, 1) := by decide +kernel
theorem dX11_isThere_8 : decode cX11_isThere 8 = .ok (.aload_n 0, 1) := by decide +kernel
theorem dX11_isThere_9 : decode cX11_isThere 9 = .ok (.getfield 273, 3) := by decide +kernel
theorem dX11_isThere_12 : decode cX11_isThere 12 = .ok (.if_icmp .ge 23, 3) := by decide +kernel
theorem dX11_isThere_15 : decode cX11_isThere 15 = .ok (.iload_n 1, 1) := by decide +kernel
theorem dX11_isThere_16 : decode cX11_isThere 16 = .ok (.bipush 8, 2) := by decide +kernel
theorem dX11_isThere_18 : decode cX11_isThere 18 = .ok (.irem, 1) := by decide +kernel
theorem dX11_isThere_19 : decode cX11_isThere 19 = .ok (.aload_n 0, 1) := by decide +kernel
theorem dX11_isThere_20 : decode cX11_isThere 20 = .ok (.getfield 16, 3) := by decide +kernel
theorem dX11_isThere_23 : decode cX11_isThere 23 = .ok (.iload_n 1, 1) := by decide +kernel
theorem dX11_isThere_24 : decode cX11_isThere 24 = .ok (.bipush 8, 2) := by decide +kernel
theorem dX11_isThere_26 : decode cX11_isThere 26 = .ok (.idiv, 1) := by decide +kernel
theorem dX11_isThere_27 : decode cX11_isThere 27 = .ok (.iaload, 1) := by decide +kernel
theorem dX11_isThere_28 : decode cX11_isThere 28 = .ok (.if_icmp .ge 7, 3) := by decide +kernel
theorem dX11_isThere_31 : decode cX11_isThere 31 = .ok (.iconst 1, 1) := by decide +kernel
theorem dX11_isThere_32 : decode cX11_isThere 32 = .ok (.goto 4, 3) := by decide +kernel
theorem dX11_isThere_35 : decode cX11_isThere 35 = .ok (.iconst 0, 1) := by decide +kernel
theorem dX11_isThere_36 : decode cX11_isThere 36 = .ok (.ireturn, 1) := by decide +kernel
theorem dX11_toldAs_0 : decode cX11_toldAs 0 = .ok (.iload_n 0, 1) := by decide +kernel
theorem dX11_toldAs_1 : decode cX11_toldAs 1 = .ok (.iconst (-1), 1) := by decide +kernel
theorem dX11_toldAs_2 : decode cX11_toldAs 2 = .ok (.if_icmp .ne 7, 3) := by decide +kernel
theorem dX11_toldAs_5 : decode cX11_toldAs 5 = .ok (.iconst (-1), 1) := by decide +kernel
theorem dX11_toldAs_6 : decode cX11_toldAs 6 = .ok (.goto 15, 3) := by decide +kernel
theorem dX11_toldAs_9 : decode cX11_toldAs 9 = .ok (.iload_n 0, 1) := by decide +kernel
theorem dX11_toldAs_10 : decode cX11_toldAs 10 = .ok (.bipush 8, 2) := by decide +kernel
theorem dX11_toldAs_12 : decode cX11_toldAs 12 = .ok (.idiv, 1) := by decide +kernel
theorem dX11_toldAs_13 : decode cX11_toldAs 13 = .ok (.bipush 10, 2) := by decide +kernel
theorem dX11_toldAs_15 : decode cX11_toldAs 15 = .ok (.imul, 1) := by decide +kernel
theorem dX11_toldAs_16 : decode cX11_toldAs 16 = .ok (.iload_n 0, 1) := by decide +kernel
theorem dX11_toldAs_17 : decode cX11_toldAs 17 = .ok (.bipush 8, 2) := by decide +kernel
theorem dX11_toldAs_19 : decode cX11_toldAs 19 = .ok (.irem, 1) := by decide +kernel
theorem dX11_toldAs_20 : decode cX11_toldAs 20 = .ok (.iadd, 1) := by decide +kernel
theorem dX11_toldAs_21 : decode cX11_toldAs 21 = .ok (.ireturn, 1) := by decide +kernel
theorem dX11_isWhite_0 : decode cX11_isWhite 0 = .ok (.aload_n 0, 1) := by decide +kernel
theorem dX11_isWhite_1 : decode cX11_isWhite 1 = .ok (.getfield 48, 3) := by decide +kernel
theorem dX11_isWhite_4 : decode cX11_isWhite 4 = .ok (.iload_n 1, 1) := by decide +kernel
theorem dX11_isWhite_5 : decode cX11_isWhite 5 = .ok (.iconst 1, 1) := by decide +kernel
theorem dX11_isWhite_6 : decode cX11_isWhite 6 = .ok (.iadd, 1) := by decide +kernel
theorem dX11_isWhite_7 : decode cX11_isWhite 7 = .ok (.iload_n 2, 1) := by decide +kernel
theorem dX11_isWhite_8 : decode cX11_isWhite 8 = .ok (.iadd, 1) := by decide +kernel
theorem dX11_isWhite_9 : decode cX11_isWhite 9 = .ok (.iaload, 1) := by decide +kernel
theorem dX11_isWhite_10 : decode cX11_isWhite 10 = .ok (.ifCond .ne 7, 3) := by decide +kernel
theorem dX11_isWhite_13 : decode cX11_isWhite 13 = .ok (.iconst 1, 1) := by decide +kernel
theorem dX11_isWhite_14 : decode cX11_isWhite 14 = .ok (.goto 4, 3) := by decide +kernel
theorem dX11_isWhite_17 : decode cX11_isWhite 17 = .ok (.iconst 0, 1) := by decide +kernel
theorem dX11_isWhite_18 : decode cX11_isWhite 18 = .ok (.ireturn, 1) := by decide +kernel
theorem dX11_beside_0 : decode cX11_beside 0 = .ok (.iload_n 2, 1) := by decide +kernel
theorem dX11_beside_1 : decode cX11_beside 1 = .ok (.bipush 8, 2) := by decide +kernel
theorem dX11_beside_3 : decode cX11_beside 3 = .ok (.idiv, 1) := by decide +kernel
theorem dX11_beside_4 : decode cX11_beside 4 = .ok (.istore 4, 2) := by decide +kernel
theorem dX11_beside_6 : decode cX11_beside 6 = .ok (.iload_n 2, 1) := by decide +kernel
theorem dX11_beside_7 : decode cX11_beside 7 = .ok (.bipush 8, 2) := by decide +kernel
theorem dX11_beside_9 : decode cX11_beside 9 = .ok (.irem, 1) := by decide +kernel
theorem dX11_beside_10 : decode cX11_beside 10 = .ok (.istore 5, 2) := by decide +kernel
theorem dX11_beside_12 : decode cX11_beside 12 = .ok (.iload_n 3, 1) := by decide +kernel
theorem dX11_beside_13 : decode cX11_beside 13 = .ok (.ifCond .ne 16, 3) := by decide +kernel
theorem dX11_beside_16 : decode cX11_beside 16 = .ok (.iload 5, 2) := by decide +kernel
theorem dX11_beside_18 : decode cX11_beside 18 = .ok (.ifCond .ne 7, 3) := by decide +kernel
theorem dX11_beside_21 : decode cX11_beside 21 = .ok (.iconst (-1), 1) := by decide +kernel
theorem dX11_beside_22 : decode cX11_beside 22 = .ok (.goto 6, 3) := by decide +kernel
theorem dX11_beside_25 : decode cX11_beside 25 = .ok (.iload_n 2, 1) := by decide +kernel
theorem dX11_beside_26 : decode cX11_beside 26 = .ok (.iconst 1, 1) := by decide +kernel
theorem dX11_beside_27 : decode cX11_beside 27 = .ok (.isub, 1) := by decide +kernel
theorem dX11_beside_28 : decode cX11_beside 28 = .ok (.ireturn, 1) := by decide +kernel
theorem dX11_beside_29 : decode cX11_beside 29 = .ok (.iload_n 3, 1) := by decide +kernel
theorem dX11_beside_30 : decode cX11_beside 30 = .ok (.iconst 1, 1) := by decide +kernel
theorem dX11_beside_31 : decode cX11_beside 31 = .ok (.if_icmp .ne 25, 3) := by decide +kernel
theorem dX11_beside_34 : decode cX11_beside 34 = .ok (.iload 5, 2) := by decide +kernel
theorem dX11_beside_36 : decode cX11_beside 36 = .ok (.iconst 1, 1) := by decide +kernel
theorem dX11_beside_37 : decode cX11_beside 37 = .ok (.iadd, 1) := by decide +kernel
theorem dX11_beside_38 : decode cX11_beside 38 = .ok (.aload_n 0, 1) := by decide +kernel
theorem dX11_beside_39 : decode cX11_beside 39 = .ok (.getfield 16, 3) := by decide +kernel
theorem dX11_beside_42 : decode cX11_beside 42 = .ok (.iload 4, 2) := by decide +kernel
theorem dX11_beside_44 : decode cX11_beside 44 = .ok (.iaload, 1) := by decide +kernel
theorem dX11_beside_45 : decode cX11_beside 45 = .ok (.if_icmp .ne 7, 3) := by decide +kernel
theorem dX11_beside_48 : decode cX11_beside 48 = .ok (.iconst (-1), 1) := by decide +kernel
theorem dX11_beside_49 : decode cX11_beside 49 = .ok (.goto 6, 3) := by decide +kernel
theorem dX11_beside_52 : decode cX11_beside 52 = .ok (.iload_n 2, 1) := by decide +kernel
theorem dX11_beside_53 : decode cX11_beside 53 = .ok (.iconst 1, 1) := by decide +kernel
theorem dX11_beside_54 : decode cX11_beside 54 = .ok (.iadd, 1) := by decide +kernel
theorem dX11_beside_55 : decode cX11_beside 55 = .ok (.ireturn, 1) := by decide +kernel
theorem dX11_beside_56 : decode cX11_beside 56 = .ok (.iload_n 3, 1) := by decide +kernel
theorem dX11_beside_57 : decode cX11_beside 57 = .ok (.iconst 2, 1) := by decide +kernel
theorem dX11_beside_58 : decode cX11_beside 58 = .ok (.if_icmp .ne 40, 3) := by decide +kernel
theorem dX11_beside_61 : decode cX11_beside 61 = .ok (.iload 4, 2) := by decide +kernel
theorem dX11_beside_63 : decode cX11_beside 63 = .ok (.ifCond .le 33, 3) := by decide +kernel
theorem dX11_beside_66 : decode cX11_beside 66 = .ok (.aload_n 0, 1) := by decide +kernel
theorem dX11_beside_67 : decode cX11_beside 67 = .ok (.getfield 48, 3) := by decide +kernel
theorem dX11_beside_70 : decode cX11_beside 70 = .ok (.iload_n 1, 1) := by decide +kernel
theorem dX11_beside_71 : decode cX11_beside 71 = .ok (.bipush 49, 2) := by decide +kernel
theorem dX11_beside_73 : decode cX11_beside 73 = .ok (.iadd, 1) := by decide +kernel
theorem dX11_beside_74 : decode cX11_beside 74 = .ok (.iload 4, 2) := by decide +kernel
theorem dX11_beside_76 : decode cX11_beside 76 = .ok (.iadd, 1) := by decide +kernel
theorem dX11_beside_77 : decode cX11_beside 77 = .ok (.iconst 1, 1) := by decide +kernel
theorem dX11_beside_78 : decode cX11_beside 78 = .ok (.isub, 1) := by decide +kernel
theorem dX11_beside_79 : decode cX11_beside 79 = .ok (.iaload, 1) := by decide +kernel
theorem dX11_beside_80 : decode cX11_beside 80 = .ok (.iload 5, 2) := by decide +kernel
theorem dX11_beside_82 : decode cX11_beside 82 = .ok (.ishr, 1) := by decide +kernel
theorem dX11_beside_83 : decode cX11_beside 83 = .ok (.iconst 1, 1) := by decide +kernel
theorem dX11_beside_84 : decode cX11_beside 84 = .ok (.iand, 1) := by decide +kernel
theorem dX11_beside_85 : decode cX11_beside 85 = .ok (.iconst 1, 1) := by decide +kernel
theorem dX11_beside_86 : decode cX11_beside 86 = .ok (.if_icmp .ne 10, 3) := by decide +kernel
theorem dX11_beside_89 : decode cX11_beside 89 = .ok (.iload_n 2, 1) := by decide +kernel
theorem dX11_beside_90 : decode cX11_beside 90 = .ok (.bipush 8, 2) := by decide +kernel
theorem dX11_beside_92 : decode cX11_beside 92 = .ok (.isub, 1) := by decide +kernel
theorem dX11_beside_93 : decode cX11_beside 93 = .ok (.goto 4, 3) := by decide +kernel
theorem dX11_beside_96 : decode cX11_beside 96 = .ok (.iconst (-1), 1) := by decide +kernel
theorem dX11_beside_97 : decode cX11_beside 97 = .ok (.ireturn, 1) := by decide +kernel
theorem dX11_beside_98 : decode cX11_beside 98 = .ok (.iload 4, 2) := by decide +kernel
theorem dX11_beside_100 : decode cX11_beside 100 = .ok (.iconst 1, 1) := by decide +kernel
theorem dX11_beside_101 : decode cX11_beside 101 = .ok (.iadd, 1) := by decide +kernel
theorem dX11_beside_102 : decode cX11_beside 102 = .ok (.aload_n 0, 1) := by decide +kernel
theorem dX11_beside_103 : decode cX11_beside 103 = .ok (.getfield 273, 3) := by decide +kernel
theorem dX11_beside_106 : decode cX11_beside 106 = .ok (.if_icmp .ge 31, 3) := by decide +kernel
theorem dX11_beside_109 : decode cX11_beside 109 = .ok (.aload_n 0, 1) := by decide +kernel
theorem dX11_beside_110 : decode cX11_beside 110 = .ok (.getfield 48, 3) := by decide +kernel
theorem dX11_beside_113 : decode cX11_beside 113 = .ok (.iload_n 1, 1) := by decide +kernel
theorem dX11_beside_114 : decode cX11_beside 114 = .ok (.bipush 49, 2) := by decide +kernel
theorem dX11_beside_116 : decode cX11_beside 116 = .ok (.iadd, 1) := by decide +kernel
theorem dX11_beside_117 : decode cX11_beside 117 = .ok (.iload 4, 2) := by decide +kernel
theorem dX11_beside_119 : decode cX11_beside 119 = .ok (.iadd, 1) := by decide +kernel
theorem dX11_beside_120 : decode cX11_beside 120 = .ok (.iaload, 1) := by decide +kernel
theorem dX11_beside_121 : decode cX11_beside 121 = .ok (.iload 5, 2) := by decide +kernel
theorem dX11_beside_123 : decode cX11_beside 123 = .ok (.ishr, 1) := by decide +kernel
theorem dX11_beside_124 : decode cX11_beside 124 = .ok (.iconst 1, 1) := by decide +kernel
theorem dX11_beside_125 : decode cX11_beside 125 = .ok (.iand, 1) := by decide +kernel
theorem dX11_beside_126 : decode cX11_beside 126 = .ok (.iconst 1, 1) := by decide +kernel
theorem dX11_beside_127 : decode cX11_beside 127 = .ok (.if_icmp .ne 10, 3) := by decide +kernel
theorem dX11_beside_130 : decode cX11_beside 130 = .ok (.iload_n 2, 1) := by decide +kernel
theorem dX11_beside_131 : decode cX11_beside 131 = .ok (.bipush 8, 2) := by decide +kernel
theorem dX11_beside_133 : decode cX11_beside 133 = .ok (.iadd, 1) := by decide +kernel
theorem dX11_beside_134 : decode cX11_beside 134 = .ok (.goto 4, 3) := by decide +kernel
theorem dX11_beside_137 : decode cX11_beside 137 = .ok (.iconst (-1), 1) := by decide +kernel
theorem dX11_beside_138 : decode cX11_beside 138 = .ok (.ireturn, 1) := by decide +kernel
theorem dX11_laysFar_0 : decode cX11_laysFar 0 = .ok (.iconst 0, 1) := by decide +kernel
theorem dX11_laysFar_1 : decode cX11_laysFar 1 = .ok (.istore_n 3, 1) := by decide +kernel
theorem dX11_laysFar_2 : decode cX11_laysFar 2 = .ok (.iload_n 3, 1) := by decide +kernel
theorem dX11_laysFar_3 : decode cX11_laysFar 3 = .ok (.bipush 48, 2) := by decide +kernel
theorem dX11_laysFar_5 : decode cX11_laysFar 5 = .ok (.if_icmp .ge 18, 3) := by decide +kernel
theorem dX11_laysFar_8 : decode cX11_laysFar 8 = .ok (.aload_n 0, 1) := by decide +kernel
theorem dX11_laysFar_9 : decode cX11_laysFar 9 = .ok (.getfield 60, 3) := by decide +kernel
theorem dX11_laysFar_12 : decode cX11_laysFar 12 = .ok (.iload_n 3, 1) := by decide +kernel
theorem dX11_laysFar_13 : decode cX11_laysFar 13 = .ok (.sipush 9999, 3) := by decide +kernel
theorem dX11_laysFar_16 : decode cX11_laysFar 16 = .ok (.iastore, 1) := by decide +kernel
theorem dX11_laysFar_17 : decode cX11_laysFar 17 = .ok (.iinc 3 1, 3) := by decide +kernel
theorem dX11_laysFar_20 : decode cX11_laysFar 20 = .ok (.goto (-18), 3) := by decide +kernel
theorem dX11_laysFar_23 : decode cX11_laysFar 23 = .ok (.aload_n 0, 1) := by decide +kernel
theorem dX11_laysFar_24 : decode cX11_laysFar 24 = .ok (.getfield 60, 3) := by decide +kernel
theorem dX11_laysFar_27 : decode cX11_laysFar 27 = .ok (.iload_n 2, 1) := by decide +kernel
theorem dX11_laysFar_28 : decode cX11_laysFar 28 = .ok (.iconst 0, 1) := by decide +kernel
theorem dX11_laysFar_29 : decode cX11_laysFar 29 = .ok (.iastore, 1) := by decide +kernel
theorem dX11_laysFar_30 : decode cX11_laysFar 30 = .ok (.iconst 0, 1) := by decide +kernel
theorem dX11_laysFar_31 : decode cX11_laysFar 31 = .ok (.istore_n 3, 1) := by decide +kernel
theorem dX11_laysFar_32 : decode cX11_laysFar 32 = .ok (.iconst 0, 1) := by decide +kernel
theorem dX11_laysFar_33 : decode cX11_laysFar 33 = .ok (.istore 4, 2) := by decide +kernel
theorem dX11_laysFar_35 : decode cX11_laysFar 35 = .ok (.aload_n 0, 1) := by decide +kernel
theorem dX11_laysFar_36 : decode cX11_laysFar 36 = .ok (.iload_n 1, 1) := by decide +kernel
theorem dX11_laysFar_37 : decode cX11_laysFar 37 = .ok (.iload_n 2, 1) := by decide +kernel
theorem dX11_laysFar_38 : decode cX11_laysFar 38 = .ok (.invokevirtual 297, 3) := by decide +kernel
theorem dX11_laysFar_41 : decode cX11_laysFar 41 = .ok (.ifCond .eq 13, 3) := by decide +kernel
theorem dX11_laysFar_44 : decode cX11_laysFar 44 = .ok (.aload_n 0, 1) := by decide +kernel
theorem dX11_laysFar_45 : decode cX11_laysFar 45 = .ok (.getfield 63, 3) := by decide +kernel
theorem dX11_laysFar_48 : decode cX11_laysFar 48 = .ok (.iconst 0, 1) := by decide +kernel
theorem dX11_laysFar_49 : decode cX11_laysFar 49 = .ok (.iload_n 2, 1) := by decide +kernel
theorem dX11_laysFar_50 : decode cX11_laysFar 50 = .ok (.iastore, 1) := by decide +kernel
theorem dX11_laysFar_51 : decode cX11_laysFar 51 = .ok (.iconst 1, 1) := by decide +kernel
theorem dX11_laysFar_52 : decode cX11_laysFar 52 = .ok (.istore 4, 2) := by decide +kernel
theorem dX11_laysFar_54 : decode cX11_laysFar 54 = .ok (.iload_n 3, 1) := by decide +kernel
theorem dX11_laysFar_55 : decode cX11_laysFar 55 = .ok (.iload 4, 2) := by decide +kernel
theorem dX11_laysFar_57 : decode cX11_laysFar 57 = .ok (.if_icmp .ge 115, 3) := by decide +kernel
theorem dX11_laysFar_60 : decode cX11_laysFar 60 = .ok (.aload_n 0, 1) := by decide +kernel
theorem dX11_laysFar_61 : decode cX11_laysFar 61 = .ok (.getfield 63, 3) := by decide +kernel
theorem dX11_laysFar_64 : decode cX11_laysFar 64 = .ok (.iload_n 3, 1) := by decide +kernel
theorem dX11_laysFar_65 : decode cX11_laysFar 65 = .ok (.iaload, 1) := by decide +kernel
theorem dX11_laysFar_66 : decode cX11_laysFar 66 = .ok (.istore 5, 2) := by decide +kernel
theorem dX11_laysFar_68 : decode cX11_laysFar 68 = .ok (.iinc 3 1, 3) := by decide +kernel
theorem dX11_laysFar_71 : decode cX11_laysFar 71 = .ok (.iconst 0, 1) := by decide +kernel
theorem dX11_laysFar_72 : decode cX11_laysFar 72 = .ok (.istore 6, 2) := by decide +kernel
theorem dX11_laysFar_74 : decode cX11_laysFar 74 = .ok (.iload 6, 2) := by decide +kernel
theorem dX11_laysFar_76 : decode cX11_laysFar 76 = .ok (.iconst 4, 1) := by decide +kernel
theorem dX11_laysFar_77 : decode cX11_laysFar 77 = .ok (.if_icmp .ge 92, 3) := by decide +kernel
theorem dX11_laysFar_80 : decode cX11_laysFar 80 = .ok (.aload_n 0, 1) := by decide +kernel
theorem dX11_laysFar_81 : decode cX11_laysFar 81 = .ok (.iload_n 1, 1) := by decide +kernel
theorem dX11_laysFar_82 : decode cX11_laysFar 82 = .ok (.iload 5, 2) := by decide +kernel
theorem dX11_laysFar_84 : decode cX11_laysFar 84 = .ok (.iload 6, 2) := by decide +kernel
theorem dX11_laysFar_86 : decode cX11_laysFar 86 = .ok (.invokevirtual 301, 3) := by decide +kernel
theorem dX11_laysFar_89 : decode cX11_laysFar 89 = .ok (.istore 7, 2) := by decide +kernel
theorem dX11_laysFar_91 : decode cX11_laysFar 91 = .ok (.iload 7, 2) := by decide +kernel
theorem dX11_laysFar_93 : decode cX11_laysFar 93 = .ok (.iconst (-1), 1) := by decide +kernel
theorem dX11_laysFar_94 : decode cX11_laysFar 94 = .ok (.if_icmp .eq 69, 3) := by decide +kernel
theorem dX11_laysFar_97 : decode cX11_laysFar 97 = .ok (.aload_n 0, 1) := by decide +kernel
theorem dX11_laysFar_98 : decode cX11_laysFar 98 = .ok (.getfield 60, 3) := by decide +kernel
theorem dX11_laysFar_101 : decode cX11_laysFar 101 = .ok (.iload 7, 2) := by decide +kernel
theorem dX11_laysFar_103 : decode cX11_laysFar 103 = .ok (.iaload, 1) := by decide +kernel
theorem dX11_laysFar_104 : decode cX11_laysFar 104 = .ok (.sipush 9999, 3) := by decide +kernel
theorem dX11_laysFar_107 : decode cX11_laysFar 107 = .ok (.if_icmp .ge 6, 3) := by decide +kernel
theorem dX11_laysFar_110 : decode cX11_laysFar 110 = .ok (.goto 53, 3) := by decide +kernel
theorem dX11_laysFar_113 : decode cX11_laysFar 113 = .ok (.aload_n 0, 1) := by decide +kernel
theorem dX11_laysFar_114 : decode cX11_laysFar 114 = .ok (.getfield 60, 3) := by decide +kernel
theorem dX11_laysFar_117 : decode cX11_laysFar 117 = .ok (.iload 7, 2) := by decide +kernel
theorem dX11_laysFar_119 : decode cX11_laysFar 119 = .ok (.aload_n 0, 1) := by decide +kernel
theorem dX11_laysFar_120 : decode cX11_laysFar 120 = .ok (.getfield 60, 3) := by decide +kernel
theorem dX11_laysFar_123 : decode cX11_laysFar 123 = .ok (.iload 5, 2) := by decide +kernel
theorem dX11_laysFar_125 : decode cX11_laysFar 125 = .ok (.iaload, 1) := by decide +kernel
theorem dX11_laysFar_126 : decode cX11_laysFar 126 = .ok (.iconst 1, 1) := by decide +kernel
theorem dX11_laysFar_127 : decode cX11_laysFar 127 = .ok (.iadd, 1) := by decide +kernel
theorem dX11_laysFar_128 : decode cX11_laysFar 128 = .ok (.iastore, 1) := by decide +kernel
theorem dX11_laysFar_129 : decode cX11_laysFar 129 = .ok (.aload_n 0, 1) := by decide +kernel
theorem dX11_laysFar_130 : decode cX11_laysFar 130 = .ok (.iload_n 1, 1) := by decide +kernel
theorem dX11_laysFar_131 : decode cX11_laysFar 131 = .ok (.iload 7, 2) := by decide +kernel
theorem dX11_laysFar_133 : decode cX11_laysFar 133 = .ok (.invokevirtual 297, 3) := by decide +kernel
theorem dX11_laysFar_136 : decode cX11_laysFar 136 = .ok (.ifCond .eq 27, 3) := by decide +kernel
theorem dX11_laysFar_139 : decode cX11_laysFar 139 = .ok (.iload 7, 2) := by decide +kernel
theorem dX11_laysFar_141 : decode cX11_laysFar 141 = .ok (.aload_n 0, 1) := by decide +kernel
theorem dX11_laysFar_142 : decode cX11_laysFar 142 = .ok (.getfield 66, 3) := by decide +kernel
theorem dX11_laysFar_145 : decode cX11_laysFar 145 = .ok (.if_icmp .ne 6, 3) := by decide +kernel
theorem dX11_laysFar_148 : decode cX11_laysFar 148 = .ok (.goto 15, 3) := by decide +kernel
theorem dX11_laysFar_151 : decode cX11_laysFar 151 = .ok (.aload_n 0, 1) := by decide +kernel
theorem dX11_laysFar_152 : decode cX11_laysFar 152 = .ok (.getfield 63, 3) := by decide +kernel
theorem dX11_laysFar_155 : decode cX11_laysFar 155 = .ok (.iload 4, 2) := by decide +kernel
theorem dX11_laysFar_157 : decode cX11_laysFar 157 = .ok (.iload 7, 2) := by decide +kernel
theorem dX11_laysFar_159 : decode cX11_laysFar 159 = .ok (.iastore, 1) := by decide +kernel
theorem dX11_laysFar_160 : decode cX11_laysFar 160 = .ok (.iinc 4 1, 3) := by decide +kernel
theorem dX11_laysFar_163 : decode cX11_laysFar 163 = .ok (.iinc 6 1, 3) := by decide +kernel
theorem dX11_laysFar_166 : decode cX11_laysFar 166 = .ok (.goto (-92), 3) := by decide +kernel
theorem dX11_laysFar_169 : decode cX11_laysFar 169 = .ok (.goto (-115), 3) := by decide +kernel
theorem dX11_laysFar_172 : decode cX11_laysFar 172 = .ok (.return_, 1) := by decide +kernel
theorem dX11_stepFrom_0 : decode cX11_stepFrom 0 = .ok (.iconst (-1), 1) := by decide +kernel
theorem dX11_stepFrom_1 : decode cX11_stepFrom 1 = .ok (.istore_n 3, 1) := by decide +kernel
theorem dX11_stepFrom_2 : decode cX11_stepFrom 2 = .ok (.iconst 0, 1) := by decide +kernel
theorem dX11_stepFrom_3 : decode cX11_stepFrom 3 = .ok (.istore 4, 2) := by decide +kernel
theorem dX11_stepFrom_5 : decode cX11_stepFrom 5 = .ok (.iload 4, 2) := by decide +kernel
theorem dX11_stepFrom_7 : decode cX11_stepFrom 7 = .ok (.iconst 4, 1) := by decide +kernel
theorem dX11_stepFrom_8 : decode cX11_stepFrom 8 = .ok (.if_icmp .ge 67, 3) := by decide +kernel
theorem dX11_stepFrom_11 : decode cX11_stepFrom 11 = .ok (.aload_n 0, 1) := by decide +kernel
theorem dX11_stepFrom_12 : decode cX11_stepFrom 12 = .ok (.iload_n 1, 1) := by decide +kernel
theorem dX11_stepFrom_13 : decode cX11_stepFrom 13 = .ok (.iload_n 2, 1) := by decide +kernel
theorem dX11_stepFrom_14 : decode cX11_stepFrom 14 = .ok (.iload 4, 2) := by decide +kernel
theorem dX11_stepFrom_16 : decode cX11_stepFrom 16 = .ok (.invokevirtual 301, 3) := by decide +kernel
theorem dX11_stepFrom_19 : decode cX11_stepFrom 19 = .ok (.istore 5, 2) := by decide +kernel
theorem dX11_stepFrom_21 : decode cX11_stepFrom 21 = .ok (.iload 5, 2) := by decide +kernel
theorem dX11_stepFrom_23 : decode cX11_stepFrom 23 = .ok (.iconst (-1), 1) := by decide +kernel
theorem dX11_stepFrom_24 : decode cX11_stepFrom 24 = .ok (.if_icmp .eq 45, 3) := by decide +kernel
theorem dX11_stepFrom_27 : decode cX11_stepFrom 27 = .ok (.aload_n 0, 1) := by decide +kernel
theorem dX11_stepFrom_28 : decode cX11_stepFrom 28 = .ok (.iload_n 1, 1) := by decide +kernel
theorem dX11_stepFrom_29 : decode cX11_stepFrom 29 = .ok (.iload 5, 2) := by decide +kernel
theorem dX11_stepFrom_31 : decode cX11_stepFrom 31 = .ok (.invokevirtual 297, 3) := by decide +kernel
theorem dX11_stepFrom_34 : decode cX11_stepFrom 34 = .ok (.ifCond .eq 35, 3) := by decide +kernel
theorem dX11_stepFrom_37 : decode cX11_stepFrom 37 = .ok (.aload_n 0, 1) := by decide +kernel
theorem dX11_stepFrom_38 : decode cX11_stepFrom 38 = .ok (.getfield 60, 3) := by decide +kernel
theorem dX11_stepFrom_41 : decode cX11_stepFrom 41 = .ok (.iload 5, 2) := by decide +kernel
theorem dX11_stepFrom_43 : decode cX11_stepFrom 43 = .ok (.iaload, 1) := by decide +kernel
theorem dX11_stepFrom_44 : decode cX11_stepFrom 44 = .ok (.aload_n 0, 1) := by decide +kernel
theorem dX11_stepFrom_45 : decode cX11_stepFrom 45 = .ok (.getfield 60, 3) := by decide +kernel
theorem dX11_stepFrom_48 : decode cX11_stepFrom 48 = .ok (.iload_n 2, 1) := by decide +kernel
theorem dX11_stepFrom_49 : decode cX11_stepFrom 49 = .ok (.iaload, 1) := by decide +kernel
theorem dX11_stepFrom_50 : decode cX11_stepFrom 50 = .ok (.iconst 1, 1) := by decide +kernel
theorem dX11_stepFrom_51 : decode cX11_stepFrom 51 = .ok (.isub, 1) := by decide +kernel
theorem dX11_stepFrom_52 : decode cX11_stepFrom 52 = .ok (.if_icmp .ne 17, 3) := by decide +kernel
theorem dX11_stepFrom_55 : decode cX11_stepFrom 55 = .ok (.iload_n 3, 1) := by decide +kernel
theorem dX11_stepFrom_56 : decode cX11_stepFrom 56 = .ok (.iconst (-1), 1) := by decide +kernel
theorem dX11_stepFrom_57 : decode cX11_stepFrom 57 = .ok (.if_icmp .eq 9, 3) := by decide +kernel
theorem dX11_stepFrom_60 : decode cX11_stepFrom 60 = .ok (.iload 5, 2) := by decide +kernel
theorem dX11_stepFrom_62 : decode cX11_stepFrom 62 = .ok (.iload_n 3, 1) := by decide +kernel
theorem dX11_stepFrom_63 : decode cX11_stepFrom 63 = .ok (.if_icmp .ge 6, 3) := by decide +kernel
theorem dX11_stepFrom_66 : decode cX11_stepFrom 66 = .ok (.iload 5, 2) := by decide +kernel
theorem dX11_stepFrom_68 : decode cX11_stepFrom 68 = .ok (.istore_n 3, 1) := by decide +kernel
theorem dX11_stepFrom_69 : decode cX11_stepFrom 69 = .ok (.iinc 4 1, 3) := by decide +kernel
theorem dX11_stepFrom_72 : decode cX11_stepFrom 72 = .ok (.goto (-67), 3) := by decide +kernel
theorem dX11_stepFrom_75 : decode cX11_stepFrom 75 = .ok (.iload_n 3, 1) := by decide +kernel
theorem dX11_stepFrom_76 : decode cX11_stepFrom 76 = .ok (.ireturn, 1) := by decide +kernel
theorem dX11_standAt_0 : decode cX11_standAt 0 = .ok (.iconst 0, 1) := by decide +kernel
theorem dX11_standAt_1 : decode cX11_standAt 1 = .ok (.istore_n 3, 1) := by decide +kernel
theorem dX11_standAt_2 : decode cX11_standAt 2 = .ok (.iconst 0, 1) := by decide +kernel
theorem dX11_standAt_3 : decode cX11_standAt 3 = .ok (.istore 4, 2) := by decide +kernel
theorem dX11_standAt_5 : decode cX11_standAt 5 = .ok (.iload 4, 2) := by decide +kernel
theorem dX11_standAt_7 : decode cX11_standAt 7 = .ok (.aload_n 0, 1) := by decide +kernel
theorem dX11_standAt_8 : decode cX11_standAt 8 = .ok (.getfield 276, 3) := by decide +kernel
theorem dX11_standAt_11 : decode cX11_standAt 11 = .ok (.if_icmp .ge 33, 3) := by decide +kernel
theorem dX11_standAt_14 : decode cX11_standAt 14 = .ok (.iload_n 3, 1) := by decide +kernel
theorem dX11_standAt_15 : decode cX11_standAt 15 = .ok (.aload_n 0, 1) := by decide +kernel
theorem dX11_standAt_16 : decode cX11_standAt 16 = .ok (.getfield 48, 3) := by decide +kernel
theorem dX11_standAt_19 : decode cX11_standAt 19 = .ok (.iload_n 1, 1) := by decide +kernel
theorem dX11_standAt_20 : decode cX11_standAt 20 = .ok (.bipush 55, 2) := by decide +kernel
theorem dX11_standAt_22 : decode cX11_standAt 22 = .ok (.iadd, 1) := by decide +kernel
theorem dX11_standAt_23 : decode cX11_standAt 23 = .ok (.iload 4, 2) := by decide +kernel
theorem dX11_standAt_25 : decode cX11_standAt 25 = .ok (.iadd, 1) := by decide +kernel
theorem dX11_standAt_26 : decode cX11_standAt 26 = .ok (.iaload, 1) := by decide +kernel
theorem dX11_standAt_27 : decode cX11_standAt 27 = .ok (.iload_n 2, 1) := by decide +kernel
theorem dX11_standAt_28 : decode cX11_standAt 28 = .ok (.if_icmp .ne 7, 3) := by decide +kernel
theorem dX11_standAt_31 : decode cX11_standAt 31 = .ok (.iconst 1, 1) := by decide +kernel
theorem dX11_standAt_32 : decode cX11_standAt 32 = .ok (.goto 4, 3) := by decide +kernel
theorem dX11_standAt_35 : decode cX11_standAt 35 = .ok (.iconst 0, 1) := by decide +kernel
theorem dX11_standAt_36 : decode cX11_standAt 36 = .ok (.iadd, 1) := by decide +kernel
theorem dX11_standAt_37 : decode cX11_standAt 37 = .ok (.istore_n 3, 1) := by decide +kernel
theorem dX11_standAt_38 : decode cX11_standAt 38 = .ok (.iinc 4 1, 3) := by decide +kernel
theorem dX11_standAt_41 : decode cX11_standAt 41 = .ok (.goto (-36), 3) := by decide +kernel
theorem dX11_standAt_44 : decode cX11_standAt 44 = .ok (.iload_n 3, 1) := by decide +kernel
theorem dX11_standAt_45 : decode cX11_standAt 45 = .ok (.ireturn, 1) := by decide +kernel
theorem dX11_isGoing_0 : decode cX11_isGoing 0 = .ok (.aload_n 0, 1) := by decide +kernel
theorem dX11_isGoing_1 : decode cX11_isGoing 1 = .ok (.getfield 9, 3) := by decide +kernel
theorem dX11_isGoing_4 : decode cX11_isGoing 4 = .ok (.iconst (-1), 1) := by decide +kernel
theorem dX11_isGoing_5 : decode cX11_isGoing 5 = .ok (.if_icmp .ne 5, 3) := by decide +kernel
theorem dX11_isGoing_8 : decode cX11_isGoing 8 = .ok (.iconst 1, 1) := by decide +kernel
theorem dX11_isGoing_9 : decode cX11_isGoing 9 = .ok (.ireturn, 1) := by decide +kernel
theorem dX11_isGoing_10 : decode cX11_isGoing 10 = .ok (.aload_n 0, 1) := by decide +kernel
theorem dX11_isGoing_11 : decode cX11_isGoing 11 = .ok (.getfield 54, 3) := by decide +kernel
theorem dX11_isGoing_14 : decode cX11_isGoing 14 = .ok (.iconst 0, 1) := by decide +kernel
theorem dX11_isGoing_15 : decode cX11_isGoing 15 = .ok (.aload_n 0, 1) := by decide +kernel
theorem dX11_isGoing_16 : decode cX11_isGoing 16 = .ok (.getfield 48, 3) := by decide +kernel
theorem dX11_isGoing_19 : decode cX11_isGoing 19 = .ok (.iload_n 1, 1) := by decide +kernel
theorem dX11_isGoing_20 : decode cX11_isGoing 20 = .ok (.bipush 73, 2) := by decide +kernel
theorem dX11_isGoing_22 : decode cX11_isGoing 22 = .ok (.iadd, 1) := by decide +kernel
theorem dX11_isGoing_23 : decode cX11_isGoing 23 = .ok (.iload_n 2, 1) := by decide +kernel
theorem dX11_isGoing_24 : decode cX11_isGoing 24 = .ok (.iadd, 1) := by decide +kernel
theorem dX11_isGoing_25 : decode cX11_isGoing 25 = .ok (.iaload, 1) := by decide +kernel
theorem dX11_isGoing_26 : decode cX11_isGoing 26 = .ok (.iastore, 1) := by decide +kernel
theorem dX11_isGoing_27 : decode cX11_isGoing 27 = .ok (.aload_n 0, 1) := by decide +kernel
theorem dX11_isGoing_28 : decode cX11_isGoing 28 = .ok (.getfield 54, 3) := by decide +kernel
theorem dX11_isGoing_31 : decode cX11_isGoing 31 = .ok (.iconst 1, 1) := by decide +kernel
theorem dX11_isGoing_32 : decode cX11_isGoing 32 = .ok (.iload_n 3, 1) := by decide +kernel
theorem dX11_isGoing_33 : decode cX11_isGoing 33 = .ok (.iastore, 1) := by decide +kernel
theorem dX11_isGoing_34 : decode cX11_isGoing 34 = .ok (.aload_n 0, 1) := by decide +kernel
theorem dX11_isGoing_35 : decode cX11_isGoing 35 = .ok (.getfield 54, 3) := by decide +kernel
theorem dX11_isGoing_38 : decode cX11_isGoing 38 = .ok (.iconst 2, 1) := by decide +kernel
theorem dX11_isGoing_39 : decode cX11_isGoing 39 = .ok (.aload_n 0, 1) := by decide +kernel
theorem dX11_isGoing_40 : decode cX11_isGoing 40 = .ok (.getfield 60, 3) := by decide +kernel
theorem dX11_isGoing_43 : decode cX11_isGoing 43 = .ok (.aload_n 0, 1) := by decide +kernel
theorem dX11_isGoing_44 : decode cX11_isGoing 44 = .ok (.getfield 48, 3) := by decide +kernel
theorem dX11_isGoing_47 : decode cX11_isGoing 47 = .ok (.iload_n 1, 1) := by decide +kernel
theorem dX11_isGoing_48 : decode cX11_isGoing 48 = .ok (.bipush 55, 2) := by decide +kernel
theorem dX11_isGoing_50 : decode cX11_isGoing 50 = .ok (.iadd, 1) := by decide +kernel
theorem dX11_isGoing_51 : decode cX11_isGoing 51 = .ok (.iload_n 2, 1) := by decide +kernel
theorem dX11_isGoing_52 : decode cX11_isGoing 52 = .ok (.iadd, 1) := by decide +kernel
theorem dX11_isGoing_53 : decode cX11_isGoing 53 = .ok (.iaload, 1) := by decide +kernel
theorem dX11_isGoing_54 : decode cX11_isGoing 54 = .ok (.iaload, 1) := by decide +kernel
theorem dX11_isGoing_55 : decode cX11_isGoing 55 = .ok (.iastore, 1) := by decide +kernel
theorem dX11_isGoing_56 : decode cX11_isGoing 56 = .ok (.aload_n 0, 1) := by decide +kernel
theorem dX11_isGoing_57 : decode cX11_isGoing 57 = .ok (.getfield 54, 3) := by decide +kernel
theorem dX11_isGoing_60 : decode cX11_isGoing 60 = .ok (.iconst 3, 1) := by decide +kernel
theorem dX11_isGoing_61 : decode cX11_isGoing 61 = .ok (.aload_n 0, 1) := by decide +kernel
theorem dX11_isGoing_62 : decode cX11_isGoing 62 = .ok (.getfield 48, 3) := by decide +kernel
theorem dX11_isGoing_65 : decode cX11_isGoing 65 = .ok (.iload_n 1, 1) := by decide +kernel
theorem dX11_isGoing_66 : decode cX11_isGoing 66 = .ok (.bipush 67, 2) := by decide +kernel
theorem dX11_isGoing_68 : decode cX11_isGoing 68 = .ok (.iadd, 1) := by decide +kernel
theorem dX11_isGoing_69 : decode cX11_isGoing 69 = .ok (.iload_n 2, 1) := by decide +kernel
theorem dX11_isGoing_70 : decode cX11_isGoing 70 = .ok (.iadd, 1) := by decide +kernel
theorem dX11_isGoing_71 : decode cX11_isGoing 71 = .ok (.iaload, 1) := by decide +kernel
theorem dX11_isGoing_72 : decode cX11_isGoing 72 = .ok (.iastore, 1) := by decide +kernel
theorem dX11_isGoing_73 : decode cX11_isGoing 73 = .ok (.aload_n 0, 1) := by decide +kernel
theorem dX11_isGoing_74 : decode cX11_isGoing 74 = .ok (.getfield 54, 3) := by decide +kernel
theorem dX11_isGoing_77 : decode cX11_isGoing 77 = .ok (.iconst 4, 1) := by decide +kernel
theorem dX11_isGoing_78 : decode cX11_isGoing 78 = .ok (.aload_n 0, 1) := by decide +kernel
theorem dX11_isGoing_79 : decode cX11_isGoing 79 = .ok (.iload_n 1, 1) := by decide +kernel
theorem dX11_isGoing_80 : decode cX11_isGoing 80 = .ok (.aload_n 0, 1) := by decide +kernel
theorem dX11_isGoing_81 : decode cX11_isGoing 81 = .ok (.getfield 48, 3) := by decide +kernel
theorem dX11_isGoing_84 : decode cX11_isGoing 84 = .ok (.iload_n 1, 1) := by decide +kernel
theorem dX11_isGoing_85 : decode cX11_isGoing 85 = .ok (.bipush 55, 2) := by decide +kernel
theorem dX11_isGoing_87 : decode cX11_isGoing 87 = .ok (.iadd, 1) := by decide +kernel
theorem dX11_isGoing_88 : decode cX11_isGoing 88 = .ok (.iload_n 2, 1) := by decide +kernel
theorem dX11_isGoing_89 : decode cX11_isGoing 89 = .ok (.iadd, 1) := by decide +kernel
theorem dX11_isGoing_90 : decode cX11_isGoing 90 = .ok (.iaload, 1) := by decide +kernel
theorem dX11_isGoing_91 : decode cX11_isGoing 91 = .ok (.invokevirtual 304, 3) := by decide +kernel
theorem dX11_isGoing_94 : decode cX11_isGoing 94 = .ok (.iconst 1, 1) := by decide +kernel
theorem dX11_isGoing_95 : decode cX11_isGoing 95 = .ok (.isub, 1) := by decide +kernel
theorem dX11_isGoing_96 : decode cX11_isGoing 96 = .ok (.iastore, 1) := by decide +kernel
theorem dX11_isGoing_97 : decode cX11_isGoing 97 = .ok (.aload_n 0, 1) := by decide +kernel
theorem dX11_isGoing_98 : decode cX11_isGoing 98 = .ok (.getfield 54, 3) := by decide +kernel
theorem dX11_isGoing_101 : decode cX11_isGoing 101 = .ok (.iconst 5, 1) := by decide +kernel
theorem dX11_isGoing_102 : decode cX11_isGoing 102 = .ok (.aload_n 0, 1) := by decide +kernel
theorem dX11_isGoing_103 : decode cX11_isGoing 103 = .ok (.getfield 48, 3) := by decide +kernel
theorem dX11_isGoing_106 : decode cX11_isGoing 106 = .ok (.iload_n 1, 1) := by decide +kernel
theorem dX11_isGoing_107 : decode cX11_isGoing 107 = .ok (.iconst 0, 1) := by decide +kernel
theorem dX11_isGoing_108 : decode cX11_isGoing 108 = .ok (.iadd, 1) := by decide +kernel
theorem dX11_isGoing_109 : decode cX11_isGoing 109 = .ok (.iaload, 1) := by decide +kernel
theorem dX11_isGoing_110 : decode cX11_isGoing 110 = .ok (.iastore, 1) := by decide +kernel
theorem dX11_isGoing_111 : decode cX11_isGoing 111 = .ok (.aload_n 0, 1) := by decide +kernel
theorem dX11_isGoing_112 : decode cX11_isGoing 112 = .ok (.aload_n 0, 1) := by decide +kernel
theorem dX11_isGoing_113 : decode cX11_isGoing 113 = .ok (.getfield 9, 3) := by decide +kernel
theorem dX11_isGoing_116 : decode cX11_isGoing 116 = .ok (.invokevirtual 307, 3) := by decide +kernel
theorem dX11_isGoing_119 : decode cX11_isGoing 119 = .ok (.ifCond .le 7, 3) := by decide +kernel
theorem dX11_isGoing_122 : decode cX11_isGoing 122 = .ok (.iconst 1, 1) := by decide +kernel
theorem dX11_isGoing_123 : decode cX11_isGoing 123 = .ok (.goto 4, 3) := by decide +kernel
theorem dX11_isGoing_126 : decode cX11_isGoing 126 = .ok (.iconst 0, 1) := by decide +kernel
theorem dX11_isGoing_127 : decode cX11_isGoing 127 = .ok (.ireturn, 1) := by decide +kernel
theorem dX11_walks_0 : decode cX11_walks 0 = .ok (.aload_n 0, 1) := by decide +kernel
theorem dX11_walks_1 : decode cX11_walks 1 = .ok (.getfield 48, 3) := by decide +kernel
theorem dX11_walks_4 : decode cX11_walks 4 = .ok (.iload_n 1, 1) := by decide +kernel
theorem dX11_walks_5 : decode cX11_walks 5 = .ok (.bipush 61, 2) := by decide +kernel
theorem dX11_walks_7 : decode cX11_walks 7 = .ok (.iadd, 1) := by decide +kernel
theorem dX11_walks_8 : decode cX11_walks 8 = .ok (.iload_n 2, 1) := by decide +kernel
theorem dX11_walks_9 : decode cX11_walks 9 = .ok (.iadd, 1) := by decide +kernel
theorem dX11_walks_10 : decode cX11_walks 10 = .ok (.iaload, 1) := by decide +kernel
theorem dX11_walks_11 : decode cX11_walks 11 = .ok (.istore_n 3, 1) := by decide +kernel
theorem dX11_walks_12 : decode cX11_walks 12 = .ok (.aload_n 0, 1) := by decide +kernel
theorem dX11_walks_13 : decode cX11_walks 13 = .ok (.getfield 310, 3) := by decide +kernel
theorem dX11_walks_16 : decode cX11_walks 16 = .ok (.ifCond .ne 9, 3) := by decide +kernel
theorem dX11_walks_19 : decode cX11_walks 19 = .ok (.aload_n 0, 1) := by decide +kernel
theorem dX11_walks_20 : decode cX11_walks 20 = .ok (.iload_n 1, 1) := by decide +kernel
theorem dX11_walks_21 : decode cX11_walks 21 = .ok (.iload_n 3, 1) := by decide +kernel
theorem dX11_walks_22 : decode cX11_walks 22 = .ok (.invokevirtual 313, 3) := by decide +kernel
theorem dX11_walks_25 : decode cX11_walks 25 = .ok (.aload_n 0, 1) := by decide +kernel
theorem dX11_walks_26 : decode cX11_walks 26 = .ok (.getfield 310, 3) := by decide +kernel
theorem dX11_walks_29 : decode cX11_walks 29 = .ok (.ifCond .ne 7, 3) := by decide +kernel
theorem dX11_walks_32 : decode cX11_walks 32 = .ok (.iconst 1, 1) := by decide +kernel
theorem dX11_walks_33 : decode cX11_walks 33 = .ok (.goto 4, 3) := by decide +kernel
theorem dX11_walks_36 : decode cX11_walks 36 = .ok (.iconst 0, 1) := by decide +kernel
theorem dX11_walks_37 : decode cX11_walks 37 = .ok (.istore 4, 2) := by decide +kernel
theorem dX11_walks_39 : decode cX11_walks 39 = .ok (.iload 4, 2) := by decide +kernel
theorem dX11_walks_41 : decode cX11_walks 41 = .ok (.ifCond .eq 116, 3) := by decide +kernel
theorem dX11_walks_44 : decode cX11_walks 44 = .ok (.aload_n 0, 1) := by decide +kernel
theorem dX11_walks_45 : decode cX11_walks 45 = .ok (.getfield 48, 3) := by decide +kernel
theorem dX11_walks_48 : decode cX11_walks 48 = .ok (.iload_n 1, 1) := by decide +kernel
theorem dX11_walks_49 : decode cX11_walks 49 = .ok (.bipush 55, 2) := by decide +kernel
theorem dX11_walks_51 : decode cX11_walks 51 = .ok (.iadd, 1) := by decide +kernel
theorem dX11_walks_52 : decode cX11_walks 52 = .ok (.iload_n 2, 1) := by decide +kernel
theorem dX11_walks_53 : decode cX11_walks 53 = .ok (.iadd, 1) := by decide +kernel
theorem dX11_walks_54 : decode cX11_walks 54 = .ok (.iaload, 1) := by decide +kernel
theorem dX11_walks_55 : decode cX11_walks 55 = .ok (.istore 5, 2) := by decide +kernel
theorem dX11_walks_57 : decode cX11_walks 57 = .ok (.iload 5, 2) := by decide +kernel
theorem dX11_walks_59 : decode cX11_walks 59 = .ok (.iload_n 3, 1) := by decide +kernel
theorem dX11_walks_60 : decode cX11_walks 60 = .ok (.if_icmp .eq 55, 3) := by decide +kernel
theorem dX11_walks_63 : decode cX11_walks 63 = .ok (.aload_n 0, 1) := by decide +kernel
theorem dX11_walks_64 : decode cX11_walks 64 = .ok (.getfield 60, 3) := by decide +kernel
theorem dX11_walks_67 : decode cX11_walks 67 = .ok (.iload 5, 2) := by decide +kernel
theorem dX11_walks_69 : decode cX11_walks 69 = .ok (.iaload, 1) := by decide +kernel
theorem dX11_walks_70 : decode cX11_walks 70 = .ok (.sipush 9999, 3) := by decide +kernel
theorem dX11_walks_73 : decode cX11_walks 73 = .ok (.if_icmp .ge 42, 3) := by decide +kernel
theorem dX11_walks_76 : decode cX11_walks 76 = .ok (.aload_n 0, 1) := by decide +kernel
theorem dX11_walks_77 : decode cX11_walks 77 = .ok (.getfield 69, 3) := by decide +kernel
theorem dX11_walks_80 : decode cX11_walks 80 = .ok (.iload_n 2, 1) := by decide +kernel
theorem dX11_walks_81 : decode cX11_walks 81 = .ok (.iaload, 1) := by decide +kernel
theorem dX11_walks_82 : decode cX11_walks 82 = .ok (.aload_n 0, 1) := by decide +kernel
theorem dX11_walks_83 : decode cX11_walks 83 = .ok (.getfield 48, 3) := by decide +kernel
theorem dX11_walks_86 : decode cX11_walks 86 = .ok (.iload_n 1, 1) := by decide +kernel
theorem dX11_walks_87 : decode cX11_walks 87 = .ok (.bipush 73, 2) := by decide +kernel
theorem dX11_walks_89 : decode cX11_walks 89 = .ok (.iadd, 1) := by decide +kernel
theorem dX11_walks_90 : decode cX11_walks 90 = .ok (.iload_n 2, 1) := by decide +kernel
theorem dX11_walks_91 : decode cX11_walks 91 = .ok (.iadd, 1) := by decide +kernel
theorem dX11_walks_92 : decode cX11_walks 92 = .ok (.iaload, 1) := by decide +kernel
theorem dX11_walks_93 : decode cX11_walks 93 = .ok (.if_icmp .ge 22, 3) := by decide +kernel
theorem dX11_walks_96 : decode cX11_walks 96 = .ok (.aload_n 0, 1) := by decide +kernel
theorem dX11_walks_97 : decode cX11_walks 97 = .ok (.iload_n 1, 1) := by decide +kernel
theorem dX11_walks_98 : decode cX11_walks 98 = .ok (.iload_n 2, 1) := by decide +kernel
theorem dX11_walks_99 : decode cX11_walks 99 = .ok (.aload_n 0, 1) := by decide +kernel
theorem dX11_walks_100 : decode cX11_walks 100 = .ok (.getfield 69, 3) := by decide +kernel
theorem dX11_walks_103 : decode cX11_walks 103 = .ok (.iload_n 2, 1) := by decide +kernel
theorem dX11_walks_104 : decode cX11_walks 104 = .ok (.iaload, 1) := by decide +kernel
theorem dX11_walks_105 : decode cX11_walks 105 = .ok (.invokevirtual 316, 3) := by decide +kernel
theorem dX11_walks_108 : decode cX11_walks 108 = .ok (.ifCond .eq 7, 3) := by decide +kernel
theorem dX11_walks_111 : decode cX11_walks 111 = .ok (.iconst 1, 1) := by decide +kernel
theorem dX11_walks_112 : decode cX11_walks 112 = .ok (.goto 4, 3) := by decide +kernel
theorem dX11_walks_115 : decode cX11_walks 115 = .ok (.iconst 0, 1) := by decide +kernel
theorem dX11_walks_116 : decode cX11_walks 116 = .ok (.istore 4, 2) := by decide +kernel
theorem dX11_walks_118 : decode cX11_walks 118 = .ok (.iload 4, 2) := by decide +kernel
theorem dX11_walks_120 : decode cX11_walks 120 = .ok (.ifCond .ne 6, 3) := by decide +kernel
theorem dX11_walks_123 : decode cX11_walks 123 = .ok (.goto (-84), 3) := by decide +kernel
theorem dX11_walks_126 : decode cX11_walks 126 = .ok (.aload_n 0, 1) := by decide +kernel
theorem dX11_walks_127 : decode cX11_walks 127 = .ok (.getfield 48, 3) := by decide +kernel
theorem dX11_walks_130 : decode cX11_walks 130 = .ok (.iload_n 1, 1) := by decide +kernel
theorem dX11_walks_131 : decode cX11_walks 131 = .ok (.bipush 55, 2) := by decide +kernel
theorem dX11_walks_133 : decode cX11_walks 133 = .ok (.iadd, 1) := by decide +kernel
theorem dX11_walks_134 : decode cX11_walks 134 = .ok (.iload_n 2, 1) := by decide +kernel
theorem dX11_walks_135 : decode cX11_walks 135 = .ok (.iadd, 1) := by decide +kernel
theorem dX11_walks_136 : decode cX11_walks 136 = .ok (.aload_n 0, 1) := by decide +kernel
theorem dX11_walks_137 : decode cX11_walks 137 = .ok (.iload_n 1, 1) := by decide +kernel
theorem dX11_walks_138 : decode cX11_walks 138 = .ok (.iload 5, 2) := by decide +kernel
theorem dX11_walks_140 : decode cX11_walks 140 = .ok (.invokevirtual 320, 3) := by decide +kernel
theorem dX11_walks_143 : decode cX11_walks 143 = .ok (.iastore, 1) := by decide +kernel
theorem dX11_walks_144 : decode cX11_walks 144 = .ok (.aload_n 0, 1) := by decide +kernel
theorem dX11_walks_145 : decode cX11_walks 145 = .ok (.getfield 69, 3) := by decide +kernel
theorem dX11_walks_148 : decode cX11_walks 148 = .ok (.iload_n 2, 1) := by decide +kernel
theorem dX11_walks_149 : decode cX11_walks 149 = .ok (.dup2, 1) := by decide +kernel
theorem dX11_walks_150 : decode cX11_walks 150 = .ok (.iaload, 1) := by decide +kernel
theorem dX11_walks_151 : decode cX11_walks 151 = .ok (.iconst 1, 1) := by decide +kernel
theorem dX11_walks_152 : decode cX11_walks 152 = .ok (.iadd, 1) := by decide +kernel
theorem dX11_walks_153 : decode cX11_walks 153 = .ok (.iastore, 1) := by decide +kernel
theorem dX11_walks_154 : decode cX11_walks 154 = .ok (.goto (-115), 3) := by decide +kernel
theorem dX11_walks_157 : decode cX11_walks 157 = .ok (.aload_n 0, 1) := by decide +kernel
theorem dX11_walks_158 : decode cX11_walks 158 = .ok (.getfield 48, 3) := by decide +kernel
theorem dX11_walks_161 : decode cX11_walks 161 = .ok (.iload_n 1, 1) := by decide +kernel
theorem dX11_walks_162 : decode cX11_walks 162 = .ok (.bipush 55, 2) := by decide +kernel
theorem dX11_walks_164 : decode cX11_walks 164 = .ok (.iadd, 1) := by decide +kernel
theorem dX11_walks_165 : decode cX11_walks 165 = .ok (.iload_n 2, 1) := by decide +kernel
theorem dX11_walks_166 : decode cX11_walks 166 = .ok (.iadd, 1) := by decide +kernel
theorem dX11_walks_167 : decode cX11_walks 167 = .ok (.iaload, 1) := by decide +kernel
theorem dX11_walks_168 : decode cX11_walks 168 = .ok (.iload_n 3, 1) := by decide +kernel
theorem dX11_walks_169 : decode cX11_walks 169 = .ok (.if_icmp .eq 4, 3) := by decide +kernel
theorem dX11_walks_172 : decode cX11_walks 172 = .ok (.return_, 1) := by decide +kernel
theorem dX11_walks_173 : decode cX11_walks 173 = .ok (.aload_n 0, 1) := by decide +kernel
theorem dX11_walks_174 : decode cX11_walks 174 = .ok (.getfield 48, 3) := by decide +kernel
theorem dX11_walks_177 : decode cX11_walks 177 = .ok (.iload_n 1, 1) := by decide +kernel
theorem dX11_walks_178 : decode cX11_walks 178 = .ok (.bipush 61, 2) := by decide +kernel
theorem dX11_walks_180 : decode cX11_walks 180 = .ok (.iadd, 1) := by decide +kernel
theorem dX11_walks_181 : decode cX11_walks 181 = .ok (.iload_n 2, 1) := by decide +kernel
theorem dX11_walks_182 : decode cX11_walks 182 = .ok (.iadd, 1) := by decide +kernel
theorem dX11_walks_183 : decode cX11_walks 183 = .ok (.iconst (-1), 1) := by decide +kernel
theorem dX11_walks_184 : decode cX11_walks 184 = .ok (.iastore, 1) := by decide +kernel
theorem dX11_walks_185 : decode cX11_walks 185 = .ok (.aload_n 0, 1) := by decide +kernel
theorem dX11_walks_186 : decode cX11_walks 186 = .ok (.dup, 1) := by decide +kernel
theorem dX11_walks_187 : decode cX11_walks 187 = .ok (.getfield 323, 3) := by decide +kernel
theorem dX11_walks_190 : decode cX11_walks 190 = .ok (.iconst 1, 1) := by decide +kernel
theorem dX11_walks_191 : decode cX11_walks 191 = .ok (.iload_n 2, 1) := by decide +kernel
theorem dX11_walks_192 : decode cX11_walks 192 = .ok (.ishl, 1) := by decide +kernel
theorem dX11_walks_193 : decode cX11_walks 193 = .ok (.ior, 1) := by decide +kernel
theorem dX11_walks_194 : decode cX11_walks 194 = .ok (.putfield 323, 3) := by decide +kernel
theorem dX11_walks_197 : decode cX11_walks 197 = .ok (.return_, 1) := by decide +kernel
theorem dX11_fadesBy_0 : decode cX11_fadesBy 0 = .ok (.aload_n 0, 1) := by decide +kernel
theorem dX11_fadesBy_1 : decode cX11_fadesBy 1 = .ok (.getfield 13, 3) := by decide +kernel
theorem dX11_fadesBy_4 : decode cX11_fadesBy 4 = .ok (.iconst (-1), 1) := by decide +kernel
theorem dX11_fadesBy_5 : decode cX11_fadesBy 5 = .ok (.if_icmp .ne 23, 3) := by decide +kernel
theorem dX11_fadesBy_8 : decode cX11_fadesBy 8 = .ok (.aload_n 0, 1) := by decide +kernel
theorem dX11_fadesBy_9 : decode cX11_fadesBy 9 = .ok (.getfield 48, 3) := by decide +kernel
theorem dX11_fadesBy_12 : decode cX11_fadesBy 12 = .ok (.iload_n 1, 1) := by decide +kernel
theorem dX11_fadesBy_13 : decode cX11_fadesBy 13 = .ok (.iconst 0, 1) := by decide +kernel
theorem dX11_fadesBy_14 : decode cX11_fadesBy 14 = .ok (.iadd, 1) := by decide +kernel
theorem dX11_fadesBy_15 : decode cX11_fadesBy 15 = .ok (.iaload, 1) := by decide +kernel
theorem dX11_fadesBy_16 : decode cX11_fadesBy 16 = .ok (.iconst 5, 1) := by decide +kernel
theorem dX11_fadesBy_17 : decode cX11_fadesBy 17 = .ok (.irem, 1) := by decide +kernel
theorem dX11_fadesBy_18 : decode cX11_fadesBy 18 = .ok (.iconst 4, 1) := by decide +kernel
theorem dX11_fadesBy_19 : decode cX11_fadesBy 19 = .ok (.if_icmp .ne 7, 3) := by decide +kernel
theorem dX11_fadesBy_22 : decode cX11_fadesBy 22 = .ok (.iconst 1, 1) := by decide +kernel
theorem dX11_fadesBy_23 : decode cX11_fadesBy 23 = .ok (.goto 4, 3) := by decide +kernel
theorem dX11_fadesBy_26 : decode cX11_fadesBy 26 = .ok (.iconst 0, 1) := by decide +kernel
theorem dX11_fadesBy_27 : decode cX11_fadesBy 27 = .ok (.ireturn, 1) := by decide +kernel
theorem dX11_fadesBy_28 : decode cX11_fadesBy 28 = .ok (.aload_n 0, 1) := by decide +kernel
theorem dX11_fadesBy_29 : decode cX11_fadesBy 29 = .ok (.getfield 54, 3) := by decide +kernel
theorem dX11_fadesBy_32 : decode cX11_fadesBy 32 = .ok (.bipush 6, 2) := by decide +kernel
theorem dX11_fadesBy_34 : decode cX11_fadesBy 34 = .ok (.aload_n 0, 1) := by decide +kernel
theorem dX11_fadesBy_35 : decode cX11_fadesBy 35 = .ok (.getfield 48, 3) := by decide +kernel
theorem dX11_fadesBy_38 : decode cX11_fadesBy 38 = .ok (.iload_n 1, 1) := by decide +kernel
theorem dX11_fadesBy_39 : decode cX11_fadesBy 39 = .ok (.iconst 1, 1) := by decide +kernel
theorem dX11_fadesBy_40 : decode cX11_fadesBy 40 = .ok (.iadd, 1) := by decide +kernel
theorem dX11_fadesBy_41 : decode cX11_fadesBy 41 = .ok (.iload_n 2, 1) := by decide +kernel
theorem dX11_fadesBy_42 : decode cX11_fadesBy 42 = .ok (.iadd, 1) := by decide +kernel
theorem dX11_fadesBy_43 : decode cX11_fadesBy 43 = .ok (.iaload, 1) := by decide +kernel
theorem dX11_fadesBy_44 : decode cX11_fadesBy 44 = .ok (.iastore, 1) := by decide +kernel
theorem dX11_fadesBy_45 : decode cX11_fadesBy 45 = .ok (.aload_n 0, 1) := by decide +kernel
theorem dX11_fadesBy_46 : decode cX11_fadesBy 46 = .ok (.getfield 54, 3) := by decide +kernel
theorem dX11_fadesBy_49 : decode cX11_fadesBy 49 = .ok (.bipush 7, 2) := by decide +kernel
theorem dX11_fadesBy_51 : decode cX11_fadesBy 51 = .ok (.iload_n 2, 1) := by decide +kernel
theorem dX11_fadesBy_52 : decode cX11_fadesBy 52 = .ok (.bipush 8, 2) := by decide +kernel
theorem dX11_fadesBy_54 : decode cX11_fadesBy 54 = .ok (.irem, 1) := by decide +kernel
theorem dX11_fadesBy_55 : decode cX11_fadesBy 55 = .ok (.iastore, 1) := by decide +kernel
theorem dX11_fadesBy_56 : decode cX11_fadesBy 56 = .ok (.aload_n 0, 1) := by decide +kernel
theorem dX11_fadesBy_57 : decode cX11_fadesBy 57 = .ok (.getfield 54, 3) := by decide +kernel
theorem dX11_fadesBy_60 : decode cX11_fadesBy 60 = .ok (.bipush 8, 2) := by decide +kernel
theorem dX11_fadesBy_62 : decode cX11_fadesBy 62 = .ok (.iload_n 2, 1) := by decide +kernel
theorem dX11_fadesBy_63 : decode cX11_fadesBy 63 = .ok (.bipush 8, 2) := by decide +kernel
theorem dX11_fadesBy_65 : decode cX11_fadesBy 65 = .ok (.idiv, 1) := by decide +kernel
theorem dX11_fadesBy_66 : decode cX11_fadesBy 66 = .ok (.iastore, 1) := by decide +kernel
theorem dX11_fadesBy_67 : decode cX11_fadesBy 67 = .ok (.aload_n 0, 1) := by decide +kernel
theorem dX11_fadesBy_68 : decode cX11_fadesBy 68 = .ok (.getfield 54, 3) := by decide +kernel
theorem dX11_fadesBy_71 : decode cX11_fadesBy 71 = .ok (.iconst 4, 1) := by decide +kernel
theorem dX11_fadesBy_72 : decode cX11_fadesBy 72 = .ok (.aload_n 0, 1) := by decide +kernel
theorem dX11_fadesBy_73 : decode cX11_fadesBy 73 = .ok (.iload_n 1, 1) := by decide +kernel
theorem dX11_fadesBy_74 : decode cX11_fadesBy 74 = .ok (.iload_n 2, 1) := by decide +kernel
theorem dX11_fadesBy_75 : decode cX11_fadesBy 75 = .ok (.invokevirtual 304, 3) := by decide +kernel
theorem dX11_fadesBy_78 : decode cX11_fadesBy 78 = .ok (.iastore, 1) := by decide +kernel
theorem dX11_fadesBy_79 : decode cX11_fadesBy 79 = .ok (.aload_n 0, 1) := by decide +kernel
theorem dX11_fadesBy_80 : decode cX11_fadesBy 80 = .ok (.getfield 54, 3) := by decide +kernel
theorem dX11_fadesBy_83 : decode cX11_fadesBy 83 = .ok (.iconst 5, 1) := by decide +kernel
theorem dX11_fadesBy_84 : decode cX11_fadesBy 84 = .ok (.aload_n 0, 1) := by decide +kernel
theorem dX11_fadesBy_85 : decode cX11_fadesBy 85 = .ok (.getfield 48, 3) := by decide +kernel
theorem dX11_fadesBy_88 : decode cX11_fadesBy 88 = .ok (.iload_n 1, 1) := by decide +kernel
theorem dX11_fadesBy_89 : decode cX11_fadesBy 89 = .ok (.iconst 0, 1) := by decide +kernel
theorem dX11_fadesBy_90 : decode cX11_fadesBy 90 = .ok (.iadd, 1) := by decide +kernel
theorem dX11_fadesBy_91 : decode cX11_fadesBy 91 = .ok (.iaload, 1) := by decide +kernel
theorem dX11_fadesBy_92 : decode cX11_fadesBy 92 = .ok (.iastore, 1) := by decide +kernel
theorem dX11_fadesBy_93 : decode cX11_fadesBy 93 = .ok (.aload_n 0, 1) := by decide +kernel
theorem dX11_fadesBy_94 : decode cX11_fadesBy 94 = .ok (.aload_n 0, 1) := by decide +kernel
theorem dX11_fadesBy_95 : decode cX11_fadesBy 95 = .ok (.getfield 13, 3) := by decide +kernel
theorem dX11_fadesBy_98 : decode cX11_fadesBy 98 = .ok (.invokevirtual 307, 3) := by decide +kernel
theorem dX11_fadesBy_101 : decode cX11_fadesBy 101 = .ok (.ireturn, 1) := by decide +kernel
theorem dX11_dayGoes_0 : decode cX11_dayGoes 0 = .ok (.aload_n 0, 1) := by decide +kernel
theorem dX11_dayGoes_1 : decode cX11_dayGoes 1 = .ok (.iconst 0, 1) := by decide +kernel
theorem dX11_dayGoes_2 : decode cX11_dayGoes 2 = .ok (.putfield 323, 3) := by decide +kernel
theorem dX11_dayGoes_5 : decode cX11_dayGoes 5 = .ok (.aload_n 0, 1) := by decide +kernel
theorem dX11_dayGoes_6 : decode cX11_dayGoes 6 = .ok (.iconst 0, 1) := by decide +kernel
theorem dX11_dayGoes_7 : decode cX11_dayGoes 7 = .ok (.putfield 326, 3) := by decide +kernel
theorem dX11_dayGoes_10 : decode cX11_dayGoes 10 = .ok (.iconst 0, 1) := by decide +kernel
theorem dX11_dayGoes_11 : decode cX11_dayGoes 11 = .ok (.istore_n 2, 1) := by decide +kernel
theorem dX11_dayGoes_12 : decode cX11_dayGoes 12 = .ok (.iload_n 2, 1) := by decide +kernel
theorem dX11_dayGoes_13 : decode cX11_dayGoes 13 = .ok (.aload_n 0, 1) := by decide +kernel
theorem dX11_dayGoes_14 : decode cX11_dayGoes 14 = .ok (.getfield 276, 3) := by decide +kernel
theorem dX11_dayGoes_17 : decode cX11_dayGoes 17 = .ok (.if_icmp .ge 37, 3) := by decide +kernel
theorem dX11_dayGoes_20 : decode cX11_dayGoes 20 = .ok (.aload_n 0, 1) := by decide +kernel
theorem dX11_dayGoes_21 : decode cX11_dayGoes 21 = .ok (.getfield 69, 3) := by decide +kernel
theorem dX11_dayGoes_24 : decode cX11_dayGoes 24 = .ok (.iload_n 2, 1) := by decide +kernel
theorem dX11_dayGoes_25 : decode cX11_dayGoes 25 = .ok (.iconst 0, 1) := by decide +kernel
theorem dX11_dayGoes_26 : decode cX11_dayGoes 26 = .ok (.iastore, 1) := by decide +kernel
theorem dX11_dayGoes_27 : decode cX11_dayGoes 27 = .ok (.aload_n 0, 1) := by decide +kernel
theorem dX11_dayGoes_28 : decode cX11_dayGoes 28 = .ok (.getfield 48, 3) := by decide +kernel
theorem dX11_dayGoes_31 : decode cX11_dayGoes 31 = .ok (.iload_n 1, 1) := by decide +kernel
theorem dX11_dayGoes_32 : decode cX11_dayGoes 32 = .ok (.bipush 61, 2) := by decide +kernel
theorem dX11_dayGoes_34 : decode cX11_dayGoes 34 = .ok (.iadd, 1) := by decide +kernel
theorem dX11_dayGoes_35 : decode cX11_dayGoes 35 = .ok (.iload_n 2, 1) := by decide +kernel
theorem dX11_dayGoes_36 : decode cX11_dayGoes 36 = .ok (.iadd, 1) := by decide +kernel
theorem dX11_dayGoes_37 : decode cX11_dayGoes 37 = .ok (.iaload, 1) := by decide +kernel
theorem dX11_dayGoes_38 : decode cX11_dayGoes 38 = .ok (.iconst (-1), 1) := by decide +kernel
theorem dX11_dayGoes_39 : decode cX11_dayGoes 39 = .ok (.if_icmp .eq 9, 3) := by decide +kernel
theorem dX11_dayGoes_42 : decode cX11_dayGoes 42 = .ok (.aload_n 0, 1) := by decide +kernel
theorem dX11_dayGoes_43 : decode cX11_dayGoes 43 = .ok (.iload_n 1, 1) := by decide +kernel
theorem dX11_dayGoes_44 : decode cX11_dayGoes 44 = .ok (.iload_n 2, 1) := by decide +kernel
theorem dX11_dayGoes_45 : decode cX11_dayGoes 45 = .ok (.invokevirtual 329, 3) := by decide +kernel
theorem dX11_dayGoes_48 : decode cX11_dayGoes 48 = .ok (.iinc 2 1, 3) := by decide +kernel
theorem dX11_dayGoes_51 : decode cX11_dayGoes 51 = .ok (.goto (-39), 3) := by decide +kernel
theorem dX11_dayGoes_54 : decode cX11_dayGoes 54 = .ok (.iconst 0, 1) := by decide +kernel
theorem dX11_dayGoes_55 : decode cX11_dayGoes 55 = .ok (.istore_n 2, 1) := by decide +kernel
theorem dX11_dayGoes_56 : decode cX11_dayGoes 56 = .ok (.iload_n 2, 1) := by decide +kernel
theorem dX11_dayGoes_57 : decode cX11_dayGoes 57 = .ok (.aload_n 0, 1) := by decide +kernel
theorem dX11_dayGoes_58 : decode cX11_dayGoes 58 = .ok (.getfield 276, 3) := by decide +kernel
theorem dX11_dayGoes_61 : decode cX11_dayGoes 61 = .ok (.if_icmp .ge 78, 3) := by decide +kernel
theorem dX11_dayGoes_64 : decode cX11_dayGoes 64 = .ok (.aload_n 0, 1) := by decide +kernel
theorem dX11_dayGoes_65 : decode cX11_dayGoes 65 = .ok (.iload_n 1, 1) := by decide +kernel
theorem dX11_dayGoes_66 : decode cX11_dayGoes 66 = .ok (.aload_n 0, 1) := by decide +kernel
theorem dX11_dayGoes_67 : decode cX11_dayGoes 67 = .ok (.getfield 48, 3) := by decide +kernel
theorem dX11_dayGoes_70 : decode cX11_dayGoes 70 = .ok (.iload_n 1, 1) := by decide +kernel
theorem dX11_dayGoes_71 : decode cX11_dayGoes 71 = .ok (.bipush 55, 2) := by decide +kernel
theorem dX11_dayGoes_73 : decode cX11_dayGoes 73 = .ok (.iadd, 1) := by decide +kernel
theorem dX11_dayGoes_74 : decode cX11_dayGoes 74 = .ok (.iload_n 2, 1) := by decide +kernel
theorem dX11_dayGoes_75 : decode cX11_dayGoes 75 = .ok (.iadd, 1) := by decide +kernel
theorem dX11_dayGoes_76 : decode cX11_dayGoes 76 = .ok (.iaload, 1) := by decide +kernel
theorem dX11_dayGoes_77 : decode cX11_dayGoes 77 = .ok (.invokevirtual 304, 3) := by decide +kernel
theorem dX11_dayGoes_80 : decode cX11_dayGoes 80 = .ok (.iconst 1, 1) := by decide +kernel
theorem dX11_dayGoes_81 : decode cX11_dayGoes 81 = .ok (.isub, 1) := by decide +kernel
theorem dX11_dayGoes_82 : decode cX11_dayGoes 82 = .ok (.istore_n 3, 1) := by decide +kernel
theorem dX11_dayGoes_83 : decode cX11_dayGoes 83 = .ok (.aload_n 0, 1) := by decide +kernel
theorem dX11_dayGoes_84 : decode cX11_dayGoes 84 = .ok (.dup, 1) := by decide +kernel
theorem dX11_dayGoes_85 : decode cX11_dayGoes 85 = .ok (.getfield 326, 3) := by decide +kernel
theorem dX11_dayGoes_88 : decode cX11_dayGoes 88 = .ok (.iload_n 3, 1) := by decide +kernel
theorem dX11_dayGoes_89 : decode cX11_dayGoes 89 = .ok (.ifCond .ne 9, 3) := by decide +kernel
theorem dX11_dayGoes_92 : decode cX11_dayGoes 92 = .ok (.iconst 1, 1) := by decide +kernel
theorem dX11_dayGoes_93 : decode cX11_dayGoes 93 = .ok (.iload_n 2, 1) := by decide +kernel
theorem dX11_dayGoes_94 : decode cX11_dayGoes 94 = .ok (.ishl, 1) := by decide +kernel
theorem dX11_dayGoes_95 : decode cX11_dayGoes 95 = .ok (.goto 4, 3) := by decide +kernel
theorem dX11_dayGoes_98 : decode cX11_dayGoes 98 = .ok (.iconst 0, 1) := by decide +kernel
theorem dX11_dayGoes_99 : decode cX11_dayGoes 99 = .ok (.ior, 1) := by decide +kernel
theorem dX11_dayGoes_100 : decode cX11_dayGoes 100 = .ok (.putfield 326, 3) := by decide +kernel
theorem dX11_dayGoes_103 : decode cX11_dayGoes 103 = .ok (.aload_n 0, 1) := by decide +kernel
theorem dX11_dayGoes_104 : decode cX11_dayGoes 104 = .ok (.getfield 48, 3) := by decide +kernel
theorem dX11_dayGoes_107 : decode cX11_dayGoes 107 = .ok (.iload_n 1, 1) := by decide +kernel
theorem dX11_dayGoes_108 : decode cX11_dayGoes 108 = .ok (.bipush 67, 2) := by decide +kernel
theorem dX11_dayGoes_110 : decode cX11_dayGoes 110 = .ok (.iadd, 1) := by decide +kernel
theorem dX11_dayGoes_111 : decode cX11_dayGoes 111 = .ok (.iload_n 2, 1) := by decide +kernel
theorem dX11_dayGoes_112 : decode cX11_dayGoes 112 = .ok (.iadd, 1) := by decide +kernel
theorem dX11_dayGoes_113 : decode cX11_dayGoes 113 = .ok (.sipush 9999, 3) := by decide +kernel
theorem dX11_dayGoes_116 : decode cX11_dayGoes 116 = .ok (.aload_n 0, 1) := by decide +kernel
theorem dX11_dayGoes_117 : decode cX11_dayGoes 117 = .ok (.getfield 48, 3) := by decide +kernel
theorem dX11_dayGoes_120 : decode cX11_dayGoes 120 = .ok (.iload_n 1, 1) := by decide +kernel
theorem dX11_dayGoes_121 : decode cX11_dayGoes 121 = .ok (.bipush 67, 2) := by decide +kernel
theorem dX11_dayGoes_123 : decode cX11_dayGoes 123 = .ok (.iadd, 1) := by decide +kernel
theorem dX11_dayGoes_124 : decode cX11_dayGoes 124 = .ok (.iload_n 2, 1) := by decide +kernel
theorem dX11_dayGoes_125 : decode cX11_dayGoes 125 = .ok (.iadd, 1) := by decide +kernel
theorem dX11_dayGoes_126 : decode cX11_dayGoes 126 = .ok (.iaload, 1) := by decide +kernel
theorem dX11_dayGoes_127 : decode cX11_dayGoes 127 = .ok (.iload_n 3, 1) := by decide +kernel
theorem dX11_dayGoes_128 : decode cX11_dayGoes 128 = .ok (.iadd, 1) := by decide +kernel
theorem dX11_dayGoes_129 : decode cX11_dayGoes 129 = .ok (.invokestatic 231, 3) := by decide +kernel
theorem dX11_dayGoes_132 : decode cX11_dayGoes 132 = .ok (.iastore, 1) := by decide +kernel
theorem dX11_dayGoes_133 : decode cX11_dayGoes 133 = .ok (.iinc 2 1, 3) := by decide +kernel
theorem dX11_dayGoes_136 : decode cX11_dayGoes 136 = .ok (.goto (-80), 3) := by decide +kernel
theorem dX11_dayGoes_139 : decode cX11_dayGoes 139 = .ok (.iconst 0, 1) := by decide +kernel
theorem dX11_dayGoes_140 : decode cX11_dayGoes 140 = .ok (.istore_n 2, 1) := by decide +kernel
theorem dX11_dayGoes_141 : decode cX11_dayGoes 141 = .ok (.iload_n 2, 1) := by decide +kernel
theorem dX11_dayGoes_142 : decode cX11_dayGoes 142 = .ok (.bipush 48, 2) := by decide +kernel
theorem dX11_dayGoes_144 : decode cX11_dayGoes 144 = .ok (.if_icmp .ge 63, 3) := by decide +kernel
theorem dX11_dayGoes_147 : decode cX11_dayGoes 147 = .ok (.aload_n 0, 1) := by decide +kernel
theorem dX11_dayGoes_148 : decode cX11_dayGoes 148 = .ok (.iload_n 2, 1) := by decide +kernel
theorem dX11_dayGoes_149 : decode cX11_dayGoes 149 = .ok (.invokevirtual 332, 3) := by decide +kernel
theorem dX11_dayGoes_152 : decode cX11_dayGoes 152 = .ok (.ifCond .eq 49, 3) := by decide +kernel
theorem dX11_dayGoes_155 : decode cX11_dayGoes 155 = .ok (.aload_n 0, 1) := by decide +kernel
theorem dX11_dayGoes_156 : decode cX11_dayGoes 156 = .ok (.getfield 48, 3) := by decide +kernel
theorem dX11_dayGoes_159 : decode cX11_dayGoes 159 = .ok (.iload_n 1, 1) := by decide +kernel
theorem dX11_dayGoes_160 : decode cX11_dayGoes 160 = .ok (.iconst 1, 1) := by decide +kernel
theorem dX11_dayGoes_161 : decode cX11_dayGoes 161 = .ok (.iadd, 1) := by decide +kernel
theorem dX11_dayGoes_162 : decode cX11_dayGoes 162 = .ok (.iload_n 2, 1) := by decide +kernel
theorem dX11_dayGoes_163 : decode cX11_dayGoes 163 = .ok (.iadd, 1) := by decide +kernel
theorem dX11_dayGoes_164 : decode cX11_dayGoes 164 = .ok (.iaload, 1) := by decide +kernel
theorem dX11_dayGoes_165 : decode cX11_dayGoes 165 = .ok (.ifCond .le 36, 3) := by decide +kernel
theorem dX11_dayGoes_168 : decode cX11_dayGoes 168 = .ok (.aload_n 0, 1) := by decide +kernel
theorem dX11_dayGoes_169 : decode cX11_dayGoes 169 = .ok (.getfield 48, 3) := by decide +kernel
theorem dX11_dayGoes_172 : decode cX11_dayGoes 172 = .ok (.iload_n 1, 1) := by decide +kernel
theorem dX11_dayGoes_173 : decode cX11_dayGoes 173 = .ok (.iconst 1, 1) := by decide +kernel
theorem dX11_dayGoes_174 : decode cX11_dayGoes 174 = .ok (.iadd, 1) := by decide +kernel
theorem dX11_dayGoes_175 : decode cX11_dayGoes 175 = .ok (.iload_n 2, 1) := by decide +kernel
theorem dX11_dayGoes_176 : decode cX11_dayGoes 176 = .ok (.iadd, 1) := by decide +kernel
theorem dX11_dayGoes_177 : decode cX11_dayGoes 177 = .ok (.dup2, 1) := by decide +kernel
theorem dX11_dayGoes_178 : decode cX11_dayGoes 178 = .ok (.iaload, 1) := by decide +kernel
theorem dX11_dayGoes_179 : decode cX11_dayGoes 179 = .ok (.aload_n 0, 1) := by decide +kernel
theorem dX11_dayGoes_180 : decode cX11_dayGoes 180 = .ok (.iload_n 1, 1) := by decide +kernel
theorem dX11_dayGoes_181 : decode cX11_dayGoes 181 = .ok (.iload_n 2, 1) := by decide +kernel
theorem dX11_dayGoes_182 : decode cX11_dayGoes 182 = .ok (.invokevirtual 335, 3) := by decide +kernel
theorem dX11_dayGoes_185 : decode cX11_dayGoes 185 = .ok (.iconst 0, 1) := by decide +kernel
theorem dX11_dayGoes_186 : decode cX11_dayGoes 186 = .ok (.aload_n 0, 1) := by decide +kernel
theorem dX11_dayGoes_187 : decode cX11_dayGoes 187 = .ok (.getfield 48, 3) := by decide +kernel
theorem dX11_dayGoes_190 : decode cX11_dayGoes 190 = .ok (.iload_n 1, 1) := by decide +kernel
theorem dX11_dayGoes_191 : decode cX11_dayGoes 191 = .ok (.iconst 1, 1) := by decide +kernel
theorem dX11_dayGoes_192 : decode cX11_dayGoes 192 = .ok (.iadd, 1) := by decide +kernel
theorem dX11_dayGoes_193 : decode cX11_dayGoes 193 = .ok (.iload_n 2, 1) := by decide +kernel
theorem dX11_dayGoes_194 : decode cX11_dayGoes 194 = .ok (.iadd, 1) := by decide +kernel
theorem dX11_dayGoes_195 : decode cX11_dayGoes 195 = .ok (.iaload, 1) := by decide +kernel
theorem dX11_dayGoes_196 : decode cX11_dayGoes 196 = .ok (.invokestatic 338, 3) := by decide +kernel
theorem dX11_dayGoes_199 : decode cX11_dayGoes 199 = .ok (.isub, 1) := by decide +kernel
theorem dX11_dayGoes_200 : decode cX11_dayGoes 200 = .ok (.iastore, 1) := by decide +kernel
theorem dX11_dayGoes_201 : decode cX11_dayGoes 201 = .ok (.iinc 2 1, 3) := by decide +kernel
theorem dX11_dayGoes_204 : decode cX11_dayGoes 204 = .ok (.goto (-63), 3) := by decide +kernel
theorem dX11_dayGoes_207 : decode cX11_dayGoes 207 = .ok (.aload_n 0, 1) := by decide +kernel
theorem dX11_dayGoes_208 : decode cX11_dayGoes 208 = .ok (.getfield 48, 3) := by decide +kernel
theorem dX11_dayGoes_211 : decode cX11_dayGoes 211 = .ok (.iload_n 1, 1) := by decide +kernel
theorem dX11_dayGoes_212 : decode cX11_dayGoes 212 = .ok (.iconst 0, 1) := by decide +kernel
theorem dX11_dayGoes_213 : decode cX11_dayGoes 213 = .ok (.iadd, 1) := by decide +kernel
theorem dX11_dayGoes_214 : decode cX11_dayGoes 214 = .ok (.dup2, 1) := by decide +kernel
theorem dX11_dayGoes_215 : decode cX11_dayGoes 215 = .ok (.iaload, 1) := by decide +kernel
theorem dX11_dayGoes_216 : decode cX11_dayGoes 216 = .ok (.iconst 1, 1) := by decide +kernel
theorem dX11_dayGoes_217 : decode cX11_dayGoes 217 = .ok (.iadd, 1) := by decide +kernel
theorem dX11_dayGoes_218 : decode cX11_dayGoes 218 = .ok (.iastore, 1) := by decide +kernel
theorem dX11_dayGoes_219 : decode cX11_dayGoes 219 = .ok (.return_, 1) := by decide +kernel
theorem dX11_daysGo_0 : decode cX11_daysGo 0 = .ok (.iconst 0, 1) := by decide +kernel
theorem dX11_daysGo_1 : decode cX11_daysGo 1 = .ok (.istore_n 2, 1) := by decide +kernel
theorem dX11_daysGo_2 : decode cX11_daysGo 2 = .ok (.iload_n 2, 1) := by decide +kernel
theorem dX11_daysGo_3 : decode cX11_daysGo 3 = .ok (.iload_n 1, 1) := by decide +kernel
theorem dX11_daysGo_4 : decode cX11_daysGo 4 = .ok (.if_icmp .ge 15, 3) := by decide +kernel
theorem dX11_daysGo_7 : decode cX11_daysGo 7 = .ok (.aload_n 0, 1) := by decide +kernel
theorem dX11_daysGo_8 : decode cX11_daysGo 8 = .ok (.bipush 79, 2) := by decide +kernel
theorem dX11_daysGo_10 : decode cX11_daysGo 10 = .ok (.invokevirtual 341, 3) := by decide +kernel
theorem dX11_daysGo_13 : decode cX11_daysGo 13 = .ok (.iinc 2 1, 3) := by decide +kernel
theorem dX11_daysGo_16 : decode cX11_daysGo 16 = .ok (.goto (-14), 3) := by decide +kernel
theorem dX11_daysGo_19 : decode cX11_daysGo 19 = .ok (.return_, 1) := by decide +kernel
theorem dX11_inked_0 : decode cX11_inked 0 = .ok (.iconst 0, 1) := by decide +kernel
theorem dX11_inked_1 : decode cX11_inked 1 = .ok (.istore_n 2, 1) := by decide +kernel
theorem dX11_inked_2 : decode cX11_inked 2 = .ok (.iconst 0, 1) := by decide +kernel
theorem dX11_inked_3 : decode cX11_inked 3 = .ok (.istore_n 3, 1) := by decide +kernel
theorem dX11_inked_4 : decode cX11_inked 4 = .ok (.iload_n 3, 1) := by decide +kernel
theorem dX11_inked_5 : decode cX11_inked 5 = .ok (.bipush 48, 2) := by decide +kernel
theorem dX11_inked_7 : decode cX11_inked 7 = .ok (.if_icmp .ge 34, 3) := by decide +kernel
theorem dX11_inked_10 : decode cX11_inked 10 = .ok (.iload_n 2, 1) := by decide +kernel
theorem dX11_inked_11 : decode cX11_inked 11 = .ok (.aload_n 0, 1) := by decide +kernel
theorem dX11_inked_12 : decode cX11_inked 12 = .ok (.iload_n 3, 1) := by decide +kernel
theorem dX11_inked_13 : decode cX11_inked 13 = .ok (.invokevirtual 332, 3) := by decide +kernel
theorem dX11_inked_16 : decode cX11_inked 16 = .ok (.ifCond .eq 16, 3) := by decide +kernel
theorem dX11_inked_19 : decode cX11_inked 19 = .ok (.aload_n 0, 1) := by decide +kernel
theorem dX11_inked_20 : decode cX11_inked 20 = .ok (.iload_n 1, 1) := by decide +kernel
theorem dX11_inked_21 : decode cX11_inked 21 = .ok (.iload_n 3, 1) := by decide +kernel
theorem dX11_inked_22 : decode cX11_inked 22 = .ok (.invokevirtual 297, 3) := by decide +kernel
theorem dX11_inked_25 : decode cX11_inked 25 = .ok (.ifCond .ne 7, 3) := by decide +kernel
theorem dX11_inked_28 : decode cX11_inked 28 = .ok (.iconst 1, 1) := by decide +kernel
theorem dX11_inked_29 : decode cX11_inked 29 = .ok (.goto 4, 3) := by decide +kernel
theorem dX11_inked_32 : decode cX11_inked 32 = .ok (.iconst 0, 1) := by decide +kernel
theorem dX11_inked_33 : decode cX11_inked 33 = .ok (.iadd, 1) := by decide +kernel
theorem dX11_inked_34 : decode cX11_inked 34 = .ok (.istore_n 2, 1) := by decide +kernel
theorem dX11_inked_35 : decode cX11_inked 35 = .ok (.iinc 3 1, 3) := by decide +kernel
theorem dX11_inked_38 : decode cX11_inked 38 = .ok (.goto (-34), 3) := by decide +kernel
theorem dX11_inked_41 : decode cX11_inked 41 = .ok (.iload_n 2, 1) := by decide +kernel
theorem dX11_inked_42 : decode cX11_inked 42 = .ok (.ireturn, 1) := by decide +kernel
theorem dX11_stiles_0 : decode cX11_stiles 0 = .ok (.iconst 0, 1) := by decide +kernel
theorem dX11_stiles_1 : decode cX11_stiles 1 = .ok (.istore_n 1, 1) := by decide +kernel
theorem dX11_stiles_2 : decode cX11_stiles 2 = .ok (.iconst 0, 1) := by decide +kernel
theorem dX11_stiles_3 : decode cX11_stiles 3 = .ok (.istore_n 2, 1) := by decide +kernel
theorem dX11_stiles_4 : decode cX11_stiles 4 = .ok (.iload_n 2, 1) := by decide +kernel
theorem dX11_stiles_5 : decode cX11_stiles 5 = .ok (.aload_n 0, 1) := by decide +kernel
theorem dX11_stiles_6 : decode cX11_stiles 6 = .ok (.getfield 273, 3) := by decide +kernel
theorem dX11_stiles_9 : decode cX11_stiles 9 = .ok (.if_icmp .ge 39, 3) := by decide +kernel
theorem dX11_stiles_12 : decode cX11_stiles 12 = .ok (.iconst 0, 1) := by decide +kernel
theorem dX11_stiles_13 : decode cX11_stiles 13 = .ok (.istore_n 3, 1) := by decide +kernel
theorem dX11_stiles_14 : decode cX11_stiles 14 = .ok (.iload_n 3, 1) := by decide +kernel
theorem dX11_stiles_15 : decode cX11_stiles 15 = .ok (.bipush 8, 2) := by decide +kernel
theorem dX11_stiles_17 : decode cX11_stiles 17 = .ok (.if_icmp .ge 25, 3) := by decide +kernel
theorem dX11_stiles_20 : decode cX11_stiles 20 = .ok (.iload_n 1, 1) := by decide +kernel
theorem dX11_stiles_21 : decode cX11_stiles 21 = .ok (.aload_n 0, 1) := by decide +kernel
theorem dX11_stiles_22 : decode cX11_stiles 22 = .ok (.getfield 48, 3) := by decide +kernel
theorem dX11_stiles_25 : decode cX11_stiles 25 = .ok (.bipush 49, 2) := by decide +kernel
theorem dX11_stiles_27 : decode cX11_stiles 27 = .ok (.iload_n 2, 1) := by decide +kernel
theorem dX11_stiles_28 : decode cX11_stiles 28 = .ok (.iadd, 1) := by decide +kernel
theorem dX11_stiles_29 : decode cX11_stiles 29 = .ok (.iaload, 1) := by decide +kernel
theorem dX11_stiles_30 : decode cX11_stiles 30 = .ok (.iload_n 3, 1) := by decide +kernel
theorem dX11_stiles_31 : decode cX11_stiles 31 = .ok (.ishr, 1) := by decide +kernel
theorem dX11_stiles_32 : decode cX11_stiles 32 = .ok (.iconst 1, 1) := by decide +kernel
theorem dX11_stiles_33 : decode cX11_stiles 33 = .ok (.iand, 1) := by decide +kernel
theorem dX11_stiles_34 : decode cX11_stiles 34 = .ok (.iadd, 1) := by decide +kernel
theorem dX11_stiles_35 : decode cX11_stiles 35 = .ok (.istore_n 1, 1) := by decide +kernel
theorem dX11_stiles_36 : decode cX11_stiles 36 = .ok (.iinc 3 1, 3) := by decide +kernel
theorem dX11_stiles_39 : decode cX11_stiles 39 = .ok (.goto (-25), 3) := by decide +kernel
theorem dX11_stiles_42 : decode cX11_stiles 42 = .ok (.iinc 2 1, 3) := by decide +kernel
theorem dX11_stiles_45 : decode cX11_stiles 45 = .ok (.goto (-41), 3) := by decide +kernel
theorem dX11_stiles_48 : decode cX11_stiles 48 = .ok (.iload_n 1, 1) := by decide +kernel
theorem dX11_stiles_49 : decode cX11_stiles 49 = .ok (.ireturn, 1) := by decide +kernel
theorem dX11_metAll_0 : decode cX11_metAll 0 = .ok (.iconst 0, 1) := by decide +kernel
theorem dX11_metAll_1 : decode cX11_metAll 1 = .ok (.istore_n 2, 1) := by decide +kernel
theorem dX11_metAll_2 : decode cX11_metAll 2 = .ok (.iconst 0, 1) := by decide +kernel
theorem dX11_metAll_3 : decode cX11_metAll 3 = .ok (.istore_n 3, 1) := by decide +kernel
theorem dX11_metAll_4 : decode cX11_metAll 4 = .ok (.iload_n 3, 1) := by decide +kernel
theorem dX11_metAll_5 : decode cX11_metAll 5 = .ok (.aload_n 0, 1) := by decide +kernel
theorem dX11_metAll_6 : decode cX11_metAll 6 = .ok (.getfield 276, 3) := by decide +kernel
theorem dX11_metAll_9 : decode cX11_metAll 9 = .ok (.if_icmp .ge 23, 3) := by decide +kernel
theorem dX11_metAll_12 : decode cX11_metAll 12 = .ok (.iload_n 2, 1) := by decide +kernel
theorem dX11_metAll_13 : decode cX11_metAll 13 = .ok (.aload_n 0, 1) := by decide +kernel
theorem dX11_metAll_14 : decode cX11_metAll 14 = .ok (.getfield 48, 3) := by decide +kernel
theorem dX11_metAll_17 : decode cX11_metAll 17 = .ok (.iload_n 1, 1) := by decide +kernel
theorem dX11_metAll_18 : decode cX11_metAll 18 = .ok (.bipush 67, 2) := by decide +kernel
theorem dX11_metAll_20 : decode cX11_metAll 20 = .ok (.iadd, 1) := by decide +kernel
theorem dX11_metAll_21 : decode cX11_metAll 21 = .ok (.iload_n 3, 1) := by decide +kernel
theorem dX11_metAll_22 : decode cX11_metAll 22 = .ok (.iadd, 1) := by decide +kernel
theorem dX11_metAll_23 : decode cX11_metAll 23 = .ok (.iaload, 1) := by decide +kernel
theorem dX11_metAll_24 : decode cX11_metAll 24 = .ok (.iadd, 1) := by decide +kernel
theorem dX11_metAll_25 : decode cX11_metAll 25 = .ok (.istore_n 2, 1) := by decide +kernel
theorem dX11_metAll_26 : decode cX11_metAll 26 = .ok (.iinc 3 1, 3) := by decide +kernel
theorem dX11_metAll_29 : decode cX11_metAll 29 = .ok (.goto (-25), 3) := by decide +kernel
theorem dX11_metAll_32 : decode cX11_metAll 32 = .ok (.iload_n 2, 1) := by decide +kernel
theorem dX11_metAll_33 : decode cX11_metAll 33 = .ok (.ireturn, 1) := by decide +kernel
theorem dX11_sentOnes_0 : decode cX11_sentOnes 0 = .ok (.iconst 0, 1) := by decide +kernel
theorem dX11_sentOnes_1 : decode cX11_sentOnes 1 = .ok (.istore_n 1, 1) := by decide +kernel
theorem dX11_sentOnes_2 : decode cX11_sentOnes 2 = .ok (.iconst 0, 1) := by decide +kernel
theorem dX11_sentOnes_3 : decode cX11_sentOnes 3 = .ok (.istore_n 2, 1) := by decide +kernel
theorem dX11_sentOnes_4 : decode cX11_sentOnes 4 = .ok (.iload_n 2, 1) := by decide +kernel
theorem dX11_sentOnes_5 : decode cX11_sentOnes 5 = .ok (.aload_n 0, 1) := by decide +kernel
theorem dX11_sentOnes_6 : decode cX11_sentOnes 6 = .ok (.getfield 276, 3) := by decide +kernel
theorem dX11_sentOnes_9 : decode cX11_sentOnes 9 = .ok (.if_icmp .ge 32, 3) := by decide +kernel
theorem dX11_sentOnes_12 : decode cX11_sentOnes 12 = .ok (.iload_n 1, 1) := by decide +kernel
theorem dX11_sentOnes_13 : decode cX11_sentOnes 13 = .ok (.aload_n 0, 1) := by decide +kernel
theorem dX11_sentOnes_14 : decode cX11_sentOnes 14 = .ok (.getfield 48, 3) := by decide +kernel
theorem dX11_sentOnes_17 : decode cX11_sentOnes 17 = .ok (.bipush 61, 2) := by decide +kernel
theorem dX11_sentOnes_19 : decode cX11_sentOnes 19 = .ok (.iload_n 2, 1) := by decide +kernel
theorem dX11_sentOnes_20 : decode cX11_sentOnes 20 = .ok (.iadd, 1) := by decide +kernel
theorem dX11_sentOnes_21 : decode cX11_sentOnes 21 = .ok (.iaload, 1) := by decide +kernel
theorem dX11_sentOnes_22 : decode cX11_sentOnes 22 = .ok (.iconst (-1), 1) := by decide +kernel
theorem dX11_sentOnes_23 : decode cX11_sentOnes 23 = .ok (.if_icmp .eq 9, 3) := by decide +kernel
theorem dX11_sentOnes_26 : decode cX11_sentOnes 26 = .ok (.iconst 1, 1) := by decide +kernel
theorem dX11_sentOnes_27 : decode cX11_sentOnes 27 = .ok (.iload_n 2, 1) := by decide +kernel
theorem dX11_sentOnes_28 : decode cX11_sentOnes 28 = .ok (.ishl, 1) := by decide +kernel
theorem dX11_sentOnes_29 : decode cX11_sentOnes 29 = .ok (.goto 4, 3) := by decide +kernel
theorem dX11_sentOnes_32 : decode cX11_sentOnes 32 = .ok (.iconst 0, 1) := by decide +kernel
theorem dX11_sentOnes_33 : decode cX11_sentOnes 33 = .ok (.ior, 1) := by decide +kernel
theorem dX11_sentOnes_34 : decode cX11_sentOnes 34 = .ok (.istore_n 1, 1) := by decide +kernel
theorem dX11_sentOnes_35 : decode cX11_sentOnes 35 = .ok (.iinc 2 1, 3) := by decide +kernel
theorem dX11_sentOnes_38 : decode cX11_sentOnes 38 = .ok (.goto (-34), 3) := by decide +kernel
theorem dX11_sentOnes_41 : decode cX11_sentOnes 41 = .ok (.iload_n 1, 1) := by decide +kernel
theorem dX11_sentOnes_42 : decode cX11_sentOnes 42 = .ok (.ireturn, 1) := by decide +kernel
theorem dX11_parts_0 : decode cX11_parts 0 = .ok (.iconst 0, 1) := by decide +kernel
theorem dX11_parts_1 : decode cX11_parts 1 = .ok (.istore_n 1, 1) := by decide +kernel
theorem dX11_parts_2 : decode cX11_parts 2 = .ok (.iconst 0, 1) := by decide +kernel
theorem dX11_parts_3 : decode cX11_parts 3 = .ok (.istore_n 2, 1) := by decide +kernel
theorem dX11_parts_4 : decode cX11_parts 4 = .ok (.iload_n 2, 1) := by decide +kernel
theorem dX11_parts_5 : decode cX11_parts 5 = .ok (.bipush 48, 2) := by decide +kernel
theorem dX11_parts_7 : decode cX11_parts 7 = .ok (.if_icmp .ge 106, 3) := by decide +kernel
theorem dX11_parts_10 : decode cX11_parts 10 = .ok (.aload_n 0, 1) := by decide +kernel
theorem dX11_parts_11 : decode cX11_parts 11 = .ok (.iload_n 2, 1) := by decide +kernel
theorem dX11_parts_12 : decode cX11_parts 12 = .ok (.invokevirtual 332, 3) := by decide +kernel
theorem dX11_parts_15 : decode cX11_parts 15 = .ok (.ifCond .eq 92, 3) := by decide +kernel
theorem dX11_parts_18 : decode cX11_parts 18 = .ok (.aload_n 0, 1) := by decide +kernel
theorem dX11_parts_19 : decode cX11_parts 19 = .ok (.iconst 0, 1) := by decide +kernel
theorem dX11_parts_20 : decode cX11_parts 20 = .ok (.iload_n 2, 1) := by decide +kernel
theorem dX11_parts_21 : decode cX11_parts 21 = .ok (.invokevirtual 297, 3) := by decide +kernel
theorem dX11_parts_24 : decode cX11_parts 24 = .ok (.ifCond .ne 6, 3) := by decide +kernel
theorem dX11_parts_27 : decode cX11_parts 27 = .ok (.goto 80, 3) := by decide +kernel
theorem dX11_parts_30 : decode cX11_parts 30 = .ok (.aload_n 0, 1) := by decide +kernel
theorem dX11_parts_31 : decode cX11_parts 31 = .ok (.iconst 0, 1) := by decide +kernel
theorem dX11_parts_32 : decode cX11_parts 32 = .ok (.iload_n 2, 1) := by decide +kernel
theorem dX11_parts_33 : decode cX11_parts 33 = .ok (.invokevirtual 313, 3) := by decide +kernel
theorem dX11_parts_36 : decode cX11_parts 36 = .ok (.iconst 1, 1) := by decide +kernel
theorem dX11_parts_37 : decode cX11_parts 37 = .ok (.istore_n 3, 1) := by decide +kernel
theorem dX11_parts_38 : decode cX11_parts 38 = .ok (.iconst 0, 1) := by decide +kernel
theorem dX11_parts_39 : decode cX11_parts 39 = .ok (.istore 4, 2) := by decide +kernel
theorem dX11_parts_41 : decode cX11_parts 41 = .ok (.iload 4, 2) := by decide +kernel
theorem dX11_parts_43 : decode cX11_parts 43 = .ok (.iload_n 2, 1) := by decide +kernel
theorem dX11_parts_44 : decode cX11_parts 44 = .ok (.if_icmp .ge 51, 3) := by decide +kernel
theorem dX11_parts_47 : decode cX11_parts 47 = .ok (.iload_n 3, 1) := by decide +kernel
theorem dX11_parts_48 : decode cX11_parts 48 = .ok (.ifCond .eq 39, 3) := by decide +kernel
theorem dX11_parts_51 : decode cX11_parts 51 = .ok (.aload_n 0, 1) := by decide +kernel
theorem dX11_parts_52 : decode cX11_parts 52 = .ok (.getfield 60, 3) := by decide +kernel
theorem dX11_parts_55 : decode cX11_parts 55 = .ok (.iload 4, 2) := by decide +kernel
theorem dX11_parts_57 : decode cX11_parts 57 = .ok (.iaload, 1) := by decide +kernel
theorem dX11_parts_58 : decode cX11_parts 58 = .ok (.sipush 9999, 3) := by decide +kernel
theorem dX11_parts_61 : decode cX11_parts 61 = .ok (.if_icmp .eq 22, 3) := by decide +kernel
theorem dX11_parts_64 : decode cX11_parts 64 = .ok (.aload_n 0, 1) := by decide +kernel
theorem dX11_parts_65 : decode cX11_parts 65 = .ok (.iload 4, 2) := by decide +kernel
theorem dX11_parts_67 : decode cX11_parts 67 = .ok (.invokevirtual 332, 3) := by decide +kernel
theorem dX11_parts_70 : decode cX11_parts 70 = .ok (.ifCond .eq 13, 3) := by decide +kernel
theorem dX11_parts_73 : decode cX11_parts 73 = .ok (.aload_n 0, 1) := by decide +kernel
theorem dX11_parts_74 : decode cX11_parts 74 = .ok (.iconst 0, 1) := by decide +kernel
theorem dX11_parts_75 : decode cX11_parts 75 = .ok (.iload 4, 2) := by decide +kernel
theorem dX11_parts_77 : decode cX11_parts 77 = .ok (.invokevirtual 297, 3) := by decide +kernel
theorem dX11_parts_80 : decode cX11_parts 80 = .ok (.ifCond .ne 7, 3) := by decide +kernel
theorem dX11_parts_83 : decode cX11_parts 83 = .ok (.iconst 1, 1) := by decide +kernel
theorem dX11_parts_84 : decode cX11_parts 84 = .ok (.goto 4, 3) := by decide +kernel
theorem dX11_parts_87 : decode cX11_parts 87 = .ok (.iconst 0, 1) := by decide +kernel
theorem dX11_parts_88 : decode cX11_parts 88 = .ok (.istore_n 3, 1) := by decide +kernel
theorem dX11_parts_89 : decode cX11_parts 89 = .ok (.iinc 4 1, 3) := by decide +kernel
theorem dX11_parts_92 : decode cX11_parts 92 = .ok (.goto (-51), 3) := by decide +kernel
theorem dX11_parts_95 : decode cX11_parts 95 = .ok (.iload_n 1, 1) := by decide +kernel
theorem dX11_parts_96 : decode cX11_parts 96 = .ok (.iload_n 3, 1) := by decide +kernel
theorem dX11_parts_97 : decode cX11_parts 97 = .ok (.ifCond .eq 7, 3) := by decide +kernel
theorem dX11_parts_100 : decode cX11_parts 100 = .ok (.iconst 1, 1) := by decide +kernel
theorem dX11_parts_101 : decode cX11_parts 101 = .ok (.goto 4, 3) := by decide +kernel
theorem dX11_parts_104 : decode cX11_parts 104 = .ok (.iconst 0, 1) := by decide +kernel
theorem dX11_parts_105 : decode cX11_parts 105 = .ok (.iadd, 1) := by decide +kernel
theorem dX11_parts_106 : decode cX11_parts 106 = .ok (.istore_n 1, 1) := by decide +kernel
theorem dX11_parts_107 : decode cX11_parts 107 = .ok (.iinc 2 1, 3) := by decide +kernel
theorem dX11_parts_110 : decode cX11_parts 110 = .ok (.goto (-106), 3) := by decide +kernel
theorem dX11_parts_113 : decode cX11_parts 113 = .ok (.iload_n 1, 1) := by decide +kernel
theorem dX11_parts_114 : decode cX11_parts 114 = .ok (.ireturn, 1) := by decide +kernel
theorem dX11_count_0 : decode cX11_count 0 = .ok (.aload_n 0, 1) := by decide +kernel
theorem dX11_count_1 : decode cX11_count 1 = .ok (.iconst 0, 1) := by decide +kernel
theorem dX11_count_2 : decode cX11_count 2 = .ok (.putfield 99, 3) := by decide +kernel
theorem dX11_count_5 : decode cX11_count 5 = .ok (.aload_n 0, 1) := by decide +kernel
theorem dX11_count_6 : decode cX11_count 6 = .ok (.iload_n 1, 1) := by decide +kernel
theorem dX11_count_7 : decode cX11_count 7 = .ok (.iconst 0, 1) := by decide +kernel
theorem dX11_count_8 : decode cX11_count 8 = .ok (.bipush 13, 2) := by decide +kernel
theorem dX11_count_10 : decode cX11_count 10 = .ok (.invokestatic 344, 3) := by decide +kernel
theorem dX11_count_13 : decode cX11_count 13 = .ok (.iconst 1, 1) := by decide +kernel
theorem dX11_count_14 : decode cX11_count 14 = .ok (.invokevirtual 266, 3) := by decide +kernel
theorem dX11_count_17 : decode cX11_count 17 = .ok (.ifCond .ne 5, 3) := by decide +kernel
theorem dX11_count_20 : decode cX11_count 20 = .ok (.iconst 0, 1) := by decide +kernel
theorem dX11_count_21 : decode cX11_count 21 = .ok (.ireturn, 1) := by decide +kernel
theorem dX11_count_22 : decode cX11_count 22 = .ok (.iload_n 1, 1) := by decide +kernel
theorem dX11_count_23 : decode cX11_count 23 = .ok (.tableswitch 116 0 10 #[57, 62, 67, 74, 79, 84, 90, 95, 101, 106, 111], 57) := by decide +kernel
theorem dX11_count_80 : decode cX11_count 80 = .ok (.aload_n 0, 1) := by decide +kernel
theorem dX11_count_81 : decode cX11_count 81 = .ok (.getfield 273, 3) := by decide +kernel
theorem dX11_count_84 : decode cX11_count 84 = .ok (.ireturn, 1) := by decide +kernel
theorem dX11_count_85 : decode cX11_count 85 = .ok (.aload_n 0, 1) := by decide +kernel
theorem dX11_count_86 : decode cX11_count 86 = .ok (.getfield 276, 3) := by decide +kernel
theorem dX11_count_89 : decode cX11_count 89 = .ok (.ireturn, 1) := by decide +kernel
theorem dX11_count_90 : decode cX11_count 90 = .ok (.aload_n 0, 1) := by decide +kernel
theorem dX11_count_91 : decode cX11_count 91 = .ok (.getfield 48, 3) := by decide +kernel
theorem dX11_count_94 : decode cX11_count 94 = .ok (.iconst 0, 1) := by decide +kernel
theorem dX11_count_95 : decode cX11_count 95 = .ok (.iaload, 1) := by decide +kernel
theorem dX11_count_96 : decode cX11_count 96 = .ok (.ireturn, 1) := by decide +kernel
theorem dX11_count_97 : decode cX11_count 97 = .ok (.aload_n 0, 1) := by decide +kernel
theorem dX11_count_98 : decode cX11_count 98 = .ok (.invokevirtual 347, 3) := by decide +kernel
theorem dX11_count_101 : decode cX11_count 101 = .ok (.ireturn, 1) := by decide +kernel
theorem dX11_count_102 : decode cX11_count 102 = .ok (.aload_n 0, 1) := by decide +kernel
theorem dX11_count_103 : decode cX11_count 103 = .ok (.invokevirtual 350, 3) := by decide +kernel
theorem dX11_count_106 : decode cX11_count 106 = .ok (.ireturn, 1) := by decide +kernel
theorem dX11_count_107 : decode cX11_count 107 = .ok (.aload_n 0, 1) := by decide +kernel
theorem dX11_count_108 : decode cX11_count 108 = .ok (.iconst 0, 1) := by decide +kernel
theorem dX11_count_109 : decode cX11_count 109 = .ok (.invokevirtual 353, 3) := by decide +kernel
theorem dX11_count_112 : decode cX11_count 112 = .ok (.ireturn, 1) := by decide +kernel
theorem dX11_count_113 : decode cX11_count 113 = .ok (.aload_n 0, 1) := by decide +kernel
theorem dX11_count_114 : decode cX11_count 114 = .ok (.invokevirtual 356, 3) := by decide +kernel
theorem dX11_count_117 : decode cX11_count 117 = .ok (.ireturn, 1) := by decide +kernel
theorem dX11_count_118 : decode cX11_count 118 = .ok (.aload_n 0, 1) := by decide +kernel
theorem dX11_count_119 : decode cX11_count 119 = .ok (.iconst 0, 1) := by decide +kernel
theorem dX11_count_120 : decode cX11_count 120 = .ok (.invokevirtual 359, 3) := by decide +kernel
theorem dX11_count_123 : decode cX11_count 123 = .ok (.ireturn, 1) := by decide +kernel
theorem dX11_count_124 : decode cX11_count 124 = .ok (.aload_n 0, 1) := by decide +kernel
theorem dX11_count_125 : decode cX11_count 125 = .ok (.getfield 283, 3) := by decide +kernel
theorem dX11_count_128 : decode cX11_count 128 = .ok (.ireturn, 1) := by decide +kernel
theorem dX11_count_129 : decode cX11_count 129 = .ok (.aload_n 0, 1) := by decide +kernel
theorem dX11_count_130 : decode cX11_count 130 = .ok (.getfield 286, 3) := by decide +kernel
theorem dX11_count_133 : decode cX11_count 133 = .ok (.ireturn, 1) := by decide +kernel
theorem dX11_count_134 : decode cX11_count 134 = .ok (.aload_n 0, 1) := by decide +kernel
theorem dX11_count_135 : decode cX11_count 135 = .ok (.getfield 102, 3) := by decide +kernel
theorem dX11_count_138 : decode cX11_count 138 = .ok (.ireturn, 1) := by decide +kernel
theorem dX11_count_139 : decode cX11_count 139 = .ok (.aload_n 0, 1) := by decide +kernel
theorem dX11_count_140 : decode cX11_count 140 = .ok (.getfield 29, 3) := by decide +kernel
theorem dX11_count_143 : decode cX11_count 143 = .ok (.iload_n 1, 1) := by decide +kernel
theorem dX11_count_144 : decode cX11_count 144 = .ok (.bipush 11, 2) := by decide +kernel
theorem dX11_count_146 : decode cX11_count 146 = .ok (.isub, 1) := by decide +kernel
theorem dX11_count_147 : decode cX11_count 147 = .ok (.iaload, 1) := by decide +kernel
theorem dX11_count_148 : decode cX11_count 148 = .ok (.ireturn, 1) := by decide +kernel
theorem dX11_isPerson_0 : decode cX11_isPerson 0 = .ok (.aload_n 0, 1) := by decide +kernel
theorem dX11_isPerson_1 : decode cX11_isPerson 1 = .ok (.iload_n 1, 1) := by decide +kernel
theorem dX11_isPerson_2 : decode cX11_isPerson 2 = .ok (.ifCond .lt 15, 3) := by decide +kernel
theorem dX11_isPerson_5 : decode cX11_isPerson 5 = .ok (.iload_n 1, 1) := by decide +kernel
theorem dX11_isPerson_6 : decode cX11_isPerson 6 = .ok (.aload_n 0, 1) := by decide +kernel
theorem dX11_isPerson_7 : decode cX11_isPerson 7 = .ok (.getfield 276, 3) := by decide +kernel
theorem dX11_isPerson_10 : decode cX11_isPerson 10 = .ok (.if_icmp .ge 7, 3) := by decide +kernel
theorem dX11_isPerson_13 : decode cX11_isPerson 13 = .ok (.iconst 1, 1) := by decide +kernel
theorem dX11_isPerson_14 : decode cX11_isPerson 14 = .ok (.goto 4, 3) := by decide +kernel
theorem dX11_isPerson_17 : decode cX11_isPerson 17 = .ok (.iconst 0, 1) := by decide +kernel
theorem dX11_isPerson_18 : decode cX11_isPerson 18 = .ok (.iconst 1, 1) := by decide +kernel
theorem dX11_isPerson_19 : decode cX11_isPerson 19 = .ok (.invokevirtual 266, 3) := by decide +kernel
theorem dX11_isPerson_22 : decode cX11_isPerson 22 = .ok (.ireturn, 1) := by decide +kernel
theorem dX11_isDeed_0 : decode cX11_isDeed 0 = .ok (.aload_n 0, 1) := by decide +kernel
theorem dX11_isDeed_1 : decode cX11_isDeed 1 = .ok (.iload_n 1, 1) := by decide +kernel
theorem dX11_isDeed_2 : decode cX11_isDeed 2 = .ok (.ifCond .lt 15, 3) := by decide +kernel
theorem dX11_isDeed_5 : decode cX11_isDeed 5 = .ok (.iload_n 1, 1) := by decide +kernel
theorem dX11_isDeed_6 : decode cX11_isDeed 6 = .ok (.aload_n 0, 1) := by decide +kernel
theorem dX11_isDeed_7 : decode cX11_isDeed 7 = .ok (.getfield 273, 3) := by decide +kernel
theorem dX11_isDeed_10 : decode cX11_isDeed 10 = .ok (.if_icmp .ge 7, 3) := by decide +kernel
theorem dX11_isDeed_13 : decode cX11_isDeed 13 = .ok (.iconst 1, 1) := by decide +kernel
theorem dX11_isDeed_14 : decode cX11_isDeed 14 = .ok (.goto 4, 3) := by decide +kernel
theorem dX11_isDeed_17 : decode cX11_isDeed 17 = .ok (.iconst 0, 1) := by decide +kernel
theorem dX11_isDeed_18 : decode cX11_isDeed 18 = .ok (.iconst 1, 1) := by decide +kernel
theorem dX11_isDeed_19 : decode cX11_isDeed 19 = .ok (.invokevirtual 266, 3) := by decide +kernel
theorem dX11_isDeed_22 : decode cX11_isDeed 22 = .ok (.ireturn, 1) := by decide +kernel
theorem dX11_placeOf_0 : decode cX11_placeOf 0 = .ok (.iload_n 1, 1) := by decide +kernel
theorem dX11_placeOf_1 : decode cX11_placeOf 1 = .ok (.ifCond .lt 46, 3) := by decide +kernel
theorem dX11_placeOf_4 : decode cX11_placeOf 4 = .ok (.iload_n 1, 1) := by decide +kernel
theorem dX11_placeOf_5 : decode cX11_placeOf 5 = .ok (.bipush 10, 2) := by decide +kernel
theorem dX11_placeOf_7 : decode cX11_placeOf 7 = .ok (.idiv, 1) := by decide +kernel
theorem dX11_placeOf_8 : decode cX11_placeOf 8 = .ok (.aload_n 0, 1) := by decide +kernel
theorem dX11_placeOf_9 : decode cX11_placeOf 9 = .ok (.getfield 273, 3) := by decide +kernel
theorem dX11_placeOf_12 : decode cX11_placeOf 12 = .ok (.if_icmp .ge 35, 3) := by decide +kernel
theorem dX11_placeOf_15 : decode cX11_placeOf 15 = .ok (.iload_n 1, 1) := by decide +kernel
theorem dX11_placeOf_16 : decode cX11_placeOf 16 = .ok (.bipush 10, 2) := by decide +kernel
theorem dX11_placeOf_18 : decode cX11_placeOf 18 = .ok (.irem, 1) := by decide +kernel
theorem dX11_placeOf_19 : decode cX11_placeOf 19 = .ok (.bipush 8, 2) := by decide +kernel
theorem dX11_placeOf_21 : decode cX11_placeOf 21 = .ok (.if_icmp .ge 26, 3) := by decide +kernel
theorem dX11_placeOf_24 : decode cX11_placeOf 24 = .ok (.aload_n 0, 1) := by decide +kernel
theorem dX11_placeOf_25 : decode cX11_placeOf 25 = .ok (.bipush 8, 2) := by decide +kernel
theorem dX11_placeOf_27 : decode cX11_placeOf 27 = .ok (.iload_n 1, 1) := by decide +kernel
theorem dX11_placeOf_28 : decode cX11_placeOf 28 = .ok (.bipush 10, 2) := by decide +kernel
theorem dX11_placeOf_30 : decode cX11_placeOf 30 = .ok (.idiv, 1) := by decide +kernel
theorem dX11_placeOf_31 : decode cX11_placeOf 31 = .ok (.imul, 1) := by decide +kernel
theorem dX11_placeOf_32 : decode cX11_placeOf 32 = .ok (.iload_n 1, 1) := by decide +kernel
theorem dX11_placeOf_33 : decode cX11_placeOf 33 = .ok (.bipush 10, 2) := by decide +kernel
theorem dX11_placeOf_35 : decode cX11_placeOf 35 = .ok (.irem, 1) := by decide +kernel
theorem dX11_placeOf_36 : decode cX11_placeOf 36 = .ok (.iadd, 1) := by decide +kernel
theorem dX11_placeOf_37 : decode cX11_placeOf 37 = .ok (.invokevirtual 332, 3) := by decide +kernel
theorem dX11_placeOf_40 : decode cX11_placeOf 40 = .ok (.ifCond .eq 7, 3) := by decide +kernel
theorem dX11_placeOf_43 : decode cX11_placeOf 43 = .ok (.iconst 1, 1) := by decide +kernel
theorem dX11_placeOf_44 : decode cX11_placeOf 44 = .ok (.goto 4, 3) := by decide +kernel
theorem dX11_placeOf_47 : decode cX11_placeOf 47 = .ok (.iconst 0, 1) := by decide +kernel
theorem dX11_placeOf_48 : decode cX11_placeOf 48 = .ok (.istore_n 2, 1) := by decide +kernel
theorem dX11_placeOf_49 : decode cX11_placeOf 49 = .ok (.aload_n 0, 1) := by decide +kernel
theorem dX11_placeOf_50 : decode cX11_placeOf 50 = .ok (.iload_n 2, 1) := by decide +kernel
theorem dX11_placeOf_51 : decode cX11_placeOf 51 = .ok (.iconst 1, 1) := by decide +kernel
theorem dX11_placeOf_52 : decode cX11_placeOf 52 = .ok (.invokevirtual 266, 3) := by decide +kernel
theorem dX11_placeOf_55 : decode cX11_placeOf 55 = .ok (.ifCond .eq 18, 3) := by decide +kernel
theorem dX11_placeOf_58 : decode cX11_placeOf 58 = .ok (.bipush 8, 2) := by decide +kernel
theorem dX11_placeOf_60 : decode cX11_placeOf 60 = .ok (.iload_n 1, 1) := by decide +kernel
theorem dX11_placeOf_61 : decode cX11_placeOf 61 = .ok (.bipush 10, 2) := by decide +kernel
theorem dX11_placeOf_63 : decode cX11_placeOf 63 = .ok (.idiv, 1) := by decide +kernel
theorem dX11_placeOf_64 : decode cX11_placeOf 64 = .ok (.imul, 1) := by decide +kernel
theorem dX11_placeOf_65 : decode cX11_placeOf 65 = .ok (.iload_n 1, 1) := by decide +kernel
theorem dX11_placeOf_66 : decode cX11_placeOf 66 = .ok (.bipush 10, 2) := by decide +kernel
theorem dX11_placeOf_68 : decode cX11_placeOf 68 = .ok (.irem, 1) := by decide +kernel
theorem dX11_placeOf_69 : decode cX11_placeOf 69 = .ok (.iadd, 1) := by decide +kernel
theorem dX11_placeOf_70 : decode cX11_placeOf 70 = .ok (.goto 4, 3) := by decide +kernel
theorem dX11_placeOf_73 : decode cX11_placeOf 73 = .ok (.iconst (-1), 1) := by decide +kernel
theorem dX11_placeOf_74 : decode cX11_placeOf 74 = .ok (.ireturn, 1) := by decide +kernel
theorem dX11_isWhat_0 : decode cX11_isWhat 0 = .ok (.aload_n 0, 1) := by decide +kernel
theorem dX11_isWhat_1 : decode cX11_isWhat 1 = .ok (.iload_n 1, 1) := by decide +kernel
theorem dX11_isWhat_2 : decode cX11_isWhat 2 = .ok (.iconst 0, 1) := by decide +kernel
theorem dX11_isWhat_3 : decode cX11_isWhat 3 = .ok (.iload_n 2, 1) := by decide +kernel
theorem dX11_isWhat_4 : decode cX11_isWhat 4 = .ok (.invokestatic 344, 3) := by decide +kernel
theorem dX11_isWhat_7 : decode cX11_isWhat 7 = .ok (.iconst 1, 1) := by decide +kernel
theorem dX11_isWhat_8 : decode cX11_isWhat 8 = .ok (.invokevirtual 266, 3) := by decide +kernel
theorem dX11_isWhat_11 : decode cX11_isWhat 11 = .ok (.ireturn, 1) := by decide +kernel
theorem dX11_isSoon_0 : decode cX11_isSoon 0 = .ok (.aload_n 0, 1) := by decide +kernel
theorem dX11_isSoon_1 : decode cX11_isSoon 1 = .ok (.iload_n 1, 1) := by decide +kernel
theorem dX11_isSoon_2 : decode cX11_isSoon 2 = .ok (.iload_n 2, 1) := by decide +kernel
theorem dX11_isSoon_3 : decode cX11_isSoon 3 = .ok (.bipush 60, 2) := by decide +kernel
theorem dX11_isSoon_5 : decode cX11_isSoon 5 = .ok (.invokestatic 344, 3) := by decide +kernel
theorem dX11_isSoon_8 : decode cX11_isSoon 8 = .ok (.iload_n 3, 1) := by decide +kernel
theorem dX11_isSoon_9 : decode cX11_isSoon 9 = .ok (.invokevirtual 266, 3) := by decide +kernel
theorem dX11_isSoon_12 : decode cX11_isSoon 12 = .ok (.ireturn, 1) := by decide +kernel
theorem dX11_deed_0 : decode cX11_deed 0 = .ok (.aload_n 0, 1) := by decide +kernel
theorem dX11_deed_1 : decode cX11_deed 1 = .ok (.iconst 0, 1) := by decide +kernel
theorem dX11_deed_2 : decode cX11_deed 2 = .ok (.putfield 99, 3) := by decide +kernel
theorem dX11_deed_5 : decode cX11_deed 5 = .ok (.aload_n 0, 1) := by decide +kernel
theorem dX11_deed_6 : decode cX11_deed 6 = .ok (.iload_n 1, 1) := by decide +kernel
theorem dX11_deed_7 : decode cX11_deed 7 = .ok (.invokevirtual 362, 3) := by decide +kernel
theorem dX11_deed_10 : decode cX11_deed 10 = .ok (.ifCond .eq 12, 3) := by decide +kernel
theorem dX11_deed_13 : decode cX11_deed 13 = .ok (.aload_n 0, 1) := by decide +kernel
theorem dX11_deed_14 : decode cX11_deed 14 = .ok (.iload_n 2, 1) := by decide +kernel
theorem dX11_deed_15 : decode cX11_deed 15 = .ok (.iconst 4, 1) := by decide +kernel
theorem dX11_deed_16 : decode cX11_deed 16 = .ok (.invokevirtual 365, 3) := by decide +kernel
theorem dX11_deed_19 : decode cX11_deed 19 = .ok (.ifCond .ne 5, 3) := by decide +kernel
theorem dX11_deed_22 : decode cX11_deed 22 = .ok (.iconst 0, 1) := by decide +kernel
theorem dX11_deed_23 : decode cX11_deed 23 = .ok (.ireturn, 1) := by decide +kernel
theorem dX11_deed_24 : decode cX11_deed 24 = .ok (.iconst 0, 1) := by decide +kernel
theorem dX11_deed_25 : decode cX11_deed 25 = .ok (.istore_n 3, 1) := by decide +kernel
theorem dX11_deed_26 : decode cX11_deed 26 = .ok (.iconst 0, 1) := by decide +kernel
theorem dX11_deed_27 : decode cX11_deed 27 = .ok (.istore 4, 2) := by decide +kernel
theorem dX11_deed_29 : decode cX11_deed 29 = .ok (.iconst 0, 1) := by decide +kernel
theorem dX11_deed_30 : decode cX11_deed 30 = .ok (.istore 5, 2) := by decide +kernel
theorem dX11_deed_32 : decode cX11_deed 32 = .ok (.iconst 0, 1) := by decide +kernel
theorem dX11_deed_33 : decode cX11_deed 33 = .ok (.istore 6, 2) := by decide +kernel
theorem dX11_deed_35 : decode cX11_deed 35 = .ok (.iload 6, 2) := by decide +kernel
theorem dX11_deed_37 : decode cX11_deed 37 = .ok (.aload_n 0, 1) := by decide +kernel
theorem dX11_deed_38 : decode cX11_deed 38 = .ok (.getfield 16, 3) := by decide +kernel
theorem dX11_deed_41 : decode cX11_deed 41 = .ok (.iload_n 1, 1) := by decide +kernel
theorem dX11_deed_42 : decode cX11_deed 42 = .ok (.iaload, 1) := by decide +kernel
theorem dX11_deed_43 : decode cX11_deed 43 = .ok (.if_icmp .ge 54, 3) := by decide +kernel
theorem dX11_deed_46 : decode cX11_deed 46 = .ok (.iload_n 3, 1) := by decide +kernel
theorem dX11_deed_47 : decode cX11_deed 47 = .ok (.aload_n 0, 1) := by decide +kernel
theorem dX11_deed_48 : decode cX11_deed 48 = .ok (.iconst 0, 1) := by decide +kernel
theorem dX11_deed_49 : decode cX11_deed 49 = .ok (.bipush 8, 2) := by decide +kernel
theorem dX11_deed_51 : decode cX11_deed 51 = .ok (.iload_n 1, 1) := by decide +kernel
theorem dX11_deed_52 : decode cX11_deed 52 = .ok (.imul, 1) := by decide +kernel
theorem dX11_deed_53 : decode cX11_deed 53 = .ok (.iload 6, 2) := by decide +kernel
theorem dX11_deed_55 : decode cX11_deed 55 = .ok (.iadd, 1) := by decide +kernel
theorem dX11_deed_56 : decode cX11_deed 56 = .ok (.invokevirtual 297, 3) := by decide +kernel
theorem dX11_deed_59 : decode cX11_deed 59 = .ok (.ifCond .eq 10, 3) := by decide +kernel
theorem dX11_deed_62 : decode cX11_deed 62 = .ok (.iconst 1, 1) := by decide +kernel
theorem dX11_deed_63 : decode cX11_deed 63 = .ok (.iload 6, 2) := by decide +kernel
theorem dX11_deed_65 : decode cX11_deed 65 = .ok (.ishl, 1) := by decide +kernel
theorem dX11_deed_66 : decode cX11_deed 66 = .ok (.goto 4, 3) := by decide +kernel
theorem dX11_deed_69 : decode cX11_deed 69 = .ok (.iconst 0, 1) := by decide +kernel
theorem dX11_deed_70 : decode cX11_deed 70 = .ok (.ior, 1) := by decide +kernel
theorem dX11_deed_71 : decode cX11_deed 71 = .ok (.istore_n 3, 1) := by decide +kernel
theorem dX11_deed_72 : decode cX11_deed 72 = .ok (.iload 4, 2) := by decide +kernel
theorem dX11_deed_74 : decode cX11_deed 74 = .ok (.aload_n 0, 1) := by decide +kernel
theorem dX11_deed_75 : decode cX11_deed 75 = .ok (.getfield 48, 3) := by decide +kernel
theorem dX11_deed_78 : decode cX11_deed 78 = .ok (.iconst 1, 1) := by decide +kernel
theorem dX11_deed_79 : decode cX11_deed 79 = .ok (.bipush 8, 2) := by decide +kernel
theorem dX11_deed_81 : decode cX11_deed 81 = .ok (.iload_n 1, 1) := by decide +kernel
theorem dX11_deed_82 : decode cX11_deed 82 = .ok (.imul, 1) := by decide +kernel
theorem dX11_deed_83 : decode cX11_deed 83 = .ok (.iadd, 1) := by decide +kernel
theorem dX11_deed_84 : decode cX11_deed 84 = .ok (.iload 6, 2) := by decide +kernel
theorem dX11_deed_86 : decode cX11_deed 86 = .ok (.iadd, 1) := by decide +kernel
theorem dX11_deed_87 : decode cX11_deed 87 = .ok (.iaload, 1) := by decide +kernel
theorem dX11_deed_88 : decode cX11_deed 88 = .ok (.iadd, 1) := by decide +kernel
theorem dX11_deed_89 : decode cX11_deed 89 = .ok (.istore 4, 2) := by decide +kernel
theorem dX11_deed_91 : decode cX11_deed 91 = .ok (.iinc 6 1, 3) := by decide +kernel
theorem dX11_deed_94 : decode cX11_deed 94 = .ok (.goto (-59), 3) := by decide +kernel
theorem dX11_deed_97 : decode cX11_deed 97 = .ok (.iconst 0, 1) := by decide +kernel
theorem dX11_deed_98 : decode cX11_deed 98 = .ok (.istore 6, 2) := by decide +kernel
theorem dX11_deed_100 : decode cX11_deed 100 = .ok (.iload 6, 2) := by decide +kernel
theorem dX11_deed_102 : decode cX11_deed 102 = .ok (.aload_n 0, 1) := by decide +kernel
theorem dX11_deed_103 : decode cX11_deed 103 = .ok (.getfield 276, 3) := by decide +kernel
theorem dX11_deed_106 : decode cX11_deed 106 = .ok (.if_icmp .ge 39, 3) := by decide +kernel
theorem dX11_deed_109 : decode cX11_deed 109 = .ok (.iload 5, 2) := by decide +kernel
theorem dX11_deed_111 : decode cX11_deed 111 = .ok (.aload_n 0, 1) := by decide +kernel
theorem dX11_deed_112 : decode cX11_deed 112 = .ok (.getfield 48, 3) := by decide +kernel
theorem dX11_deed_115 : decode cX11_deed 115 = .ok (.bipush 55, 2) := by decide +kernel
theorem dX11_deed_117 : decode cX11_deed 117 = .ok (.iload 6, 2) := by decide +kernel
theorem dX11_deed_119 : decode cX11_deed 119 = .ok (.iadd, 1) := by decide +kernel
theorem dX11_deed_120 : decode cX11_deed 120 = .ok (.iaload, 1) := by decide +kernel
theorem dX11_deed_121 : decode cX11_deed 121 = .ok (.bipush 8, 2) := by decide +kernel
theorem dX11_deed_123 : decode cX11_deed 123 = .ok (.idiv, 1) := by decide +kernel
theorem dX11_deed_124 : decode cX11_deed 124 = .ok (.iload_n 1, 1) := by decide +kernel
theorem dX11_deed_125 : decode cX11_deed 125 = .ok (.if_icmp .ne 10, 3) := by decide +kernel
theorem dX11_deed_128 : decode cX11_deed 128 = .ok (.iconst 1, 1) := by decide +kernel
theorem dX11_deed_129 : decode cX11_deed 129 = .ok (.iload 6, 2) := by decide +kernel
theorem dX11_deed_131 : decode cX11_deed 131 = .ok (.ishl, 1) := by decide +kernel
theorem dX11_deed_132 : decode cX11_deed 132 = .ok (.goto 4, 3) := by decide +kernel
theorem dX11_deed_135 : decode cX11_deed 135 = .ok (.iconst 0, 1) := by decide +kernel
theorem dX11_deed_136 : decode cX11_deed 136 = .ok (.ior, 1) := by decide +kernel
theorem dX11_deed_137 : decode cX11_deed 137 = .ok (.istore 5, 2) := by decide +kernel
theorem dX11_deed_139 : decode cX11_deed 139 = .ok (.iinc 6 1, 3) := by decide +kernel
theorem dX11_deed_142 : decode cX11_deed 142 = .ok (.goto (-42), 3) := by decide +kernel
theorem dX11_deed_145 : decode cX11_deed 145 = .ok (.iload_n 2, 1) := by decide +kernel
theorem dX11_deed_146 : decode cX11_deed 146 = .ok (.ifCond .ne 12, 3) := by decide +kernel
theorem dX11_deed_149 : decode cX11_deed 149 = .ok (.aload_n 0, 1) := by decide +kernel
theorem dX11_deed_150 : decode cX11_deed 150 = .ok (.getfield 16, 3) := by decide +kernel
theorem dX11_deed_153 : decode cX11_deed 153 = .ok (.iload_n 1, 1) := by decide +kernel
theorem dX11_deed_154 : decode cX11_deed 154 = .ok (.iaload, 1) := by decide +kernel
theorem dX11_deed_155 : decode cX11_deed 155 = .ok (.goto 41, 3) := by decide +kernel
theorem dX11_deed_158 : decode cX11_deed 158 = .ok (.iload_n 2, 1) := by decide +kernel
theorem dX11_deed_159 : decode cX11_deed 159 = .ok (.iconst 1, 1) := by decide +kernel
theorem dX11_deed_160 : decode cX11_deed 160 = .ok (.if_icmp .ne 7, 3) := by decide +kernel
theorem dX11_deed_163 : decode cX11_deed 163 = .ok (.iload_n 3, 1) := by decide +kernel
theorem dX11_deed_164 : decode cX11_deed 164 = .ok (.goto 32, 3) := by decide +kernel
theorem dX11_deed_167 : decode cX11_deed 167 = .ok (.iload_n 2, 1) := by decide +kernel
theorem dX11_deed_168 : decode cX11_deed 168 = .ok (.iconst 2, 1) := by decide +kernel
theorem dX11_deed_169 : decode cX11_deed 169 = .ok (.if_icmp .ne 15, 3) := by decide +kernel
theorem dX11_deed_172 : decode cX11_deed 172 = .ok (.aload_n 0, 1) := by decide +kernel
theorem dX11_deed_173 : decode cX11_deed 173 = .ok (.getfield 48, 3) := by decide +kernel
theorem dX11_deed_176 : decode cX11_deed 176 = .ok (.bipush 49, 2) := by decide +kernel
theorem dX11_deed_178 : decode cX11_deed 178 = .ok (.iload_n 1, 1) := by decide +kernel
theorem dX11_deed_179 : decode cX11_deed 179 = .ok (.iadd, 1) := by decide +kernel
theorem dX11_deed_180 : decode cX11_deed 180 = .ok (.iaload, 1) := by decide +kernel
theorem dX11_deed_181 : decode cX11_deed 181 = .ok (.goto 15, 3) := by decide +kernel
theorem dX11_deed_184 : decode cX11_deed 184 = .ok (.iload_n 2, 1) := by decide +kernel
theorem dX11_deed_185 : decode cX11_deed 185 = .ok (.iconst 3, 1) := by decide +kernel
theorem dX11_deed_186 : decode cX11_deed 186 = .ok (.if_icmp .ne 8, 3) := by decide +kernel
theorem dX11_deed_189 : decode cX11_deed 189 = .ok (.iload 4, 2) := by decide +kernel
theorem dX11_deed_191 : decode cX11_deed 191 = .ok (.goto 5, 3) := by decide +kernel
theorem dX11_deed_194 : decode cX11_deed 194 = .ok (.iload 5, 2) := by decide +kernel
theorem dX11_deed_196 : decode cX11_deed 196 = .ok (.ireturn, 1) := by decide +kernel
theorem dX11_orNone_0 : decode cX11_orNone 0 = .ok (.iload_n 0, 1) := by decide +kernel
theorem dX11_orNone_1 : decode cX11_orNone 1 = .ok (.sipush 9999, 3) := by decide +kernel
theorem dX11_orNone_4 : decode cX11_orNone 4 = .ok (.if_icmp .lt 7, 3) := by decide +kernel
theorem dX11_orNone_7 : decode cX11_orNone 7 = .ok (.iconst (-1), 1) := by decide +kernel
theorem dX11_orNone_8 : decode cX11_orNone 8 = .ok (.goto 4, 3) := by decide +kernel
theorem dX11_orNone_11 : decode cX11_orNone 11 = .ok (.iload_n 0, 1) := by decide +kernel
theorem dX11_orNone_12 : decode cX11_orNone 12 = .ok (.ireturn, 1) := by decide +kernel
theorem dX11_howFar_0 : decode cX11_howFar 0 = .ok (.aload_n 0, 1) := by decide +kernel
theorem dX11_howFar_1 : decode cX11_howFar 1 = .ok (.iconst 0, 1) := by decide +kernel
theorem dX11_howFar_2 : decode cX11_howFar 2 = .ok (.iload_n 2, 1) := by decide +kernel
theorem dX11_howFar_3 : decode cX11_howFar 3 = .ok (.invokevirtual 313, 3) := by decide +kernel
theorem dX11_howFar_6 : decode cX11_howFar 6 = .ok (.aload_n 0, 1) := by decide +kernel
theorem dX11_howFar_7 : decode cX11_howFar 7 = .ok (.getfield 60, 3) := by decide +kernel
theorem dX11_howFar_10 : decode cX11_howFar 10 = .ok (.iload_n 1, 1) := by decide +kernel
theorem dX11_howFar_11 : decode cX11_howFar 11 = .ok (.iaload, 1) := by decide +kernel
theorem dX11_howFar_12 : decode cX11_howFar 12 = .ok (.ireturn, 1) := by decide +kernel
theorem dX11_person_0 : decode cX11_person 0 = .ok (.aload_n 0, 1) := by decide +kernel
theorem dX11_person_1 : decode cX11_person 1 = .ok (.iconst 0, 1) := by decide +kernel
theorem dX11_person_2 : decode cX11_person 2 = .ok (.putfield 99, 3) := by decide +kernel
theorem dX11_person_5 : decode cX11_person 5 = .ok (.aload_n 0, 1) := by decide +kernel
theorem dX11_person_6 : decode cX11_person 6 = .ok (.iload_n 1, 1) := by decide +kernel
theorem dX11_person_7 : decode cX11_person 7 = .ok (.invokevirtual 368, 3) := by decide +kernel
theorem dX11_person_10 : decode cX11_person 10 = .ok (.ifCond .eq 12, 3) := by decide +kernel
theorem dX11_person_13 : decode cX11_person 13 = .ok (.aload_n 0, 1) := by decide +kernel
theorem dX11_person_14 : decode cX11_person 14 = .ok (.iload_n 2, 1) := by decide +kernel
theorem dX11_person_15 : decode cX11_person 15 = .ok (.iconst 5, 1) := by decide +kernel
theorem dX11_person_16 : decode cX11_person 16 = .ok (.invokevirtual 365, 3) := by decide +kernel
theorem dX11_person_19 : decode cX11_person 19 = .ok (.ifCond .ne 5, 3) := by decide +kernel
theorem dX11_person_22 : decode cX11_person 22 = .ok (.iconst 0, 1) := by decide +kernel
theorem dX11_person_23 : decode cX11_person 23 = .ok (.ireturn, 1) := by decide +kernel
theorem dX11_person_24 : decode cX11_person 24 = .ok (.iload_n 2, 1) := by decide +kernel
theorem dX11_person_25 : decode cX11_person 25 = .ok (.tableswitch 124 0 4 #[35, 48, 58, 71, 81], 35) := by decide +kernel
theorem dX11_person_60 : decode cX11_person 60 = .ok (.aload_n 0, 1) := by decide +kernel
theorem dX11_person_61 : decode cX11_person 61 = .ok (.getfield 48, 3) := by decide +kernel
theorem dX11_person_64 : decode cX11_person 64 = .ok (.bipush 55, 2) := by decide +kernel
theorem dX11_person_66 : decode cX11_person 66 = .ok (.iload_n 1, 1) := by decide +kernel
theorem dX11_person_67 : decode cX11_person 67 = .ok (.iadd, 1) := by decide +kernel
theorem dX11_person_68 : decode cX11_person 68 = .ok (.iaload, 1) := by decide +kernel
theorem dX11_person_69 : decode cX11_person 69 = .ok (.invokestatic 371, 3) := by decide +kernel
theorem dX11_person_72 : decode cX11_person 72 = .ok (.ireturn, 1) := by decide +kernel
theorem dX11_person_73 : decode cX11_person 73 = .ok (.aload_n 0, 1) := by decide +kernel
theorem dX11_person_74 : decode cX11_person 74 = .ok (.getfield 48, 3) := by decide +kernel
theorem dX11_person_77 : decode cX11_person 77 = .ok (.bipush 73, 2) := by decide +kernel
theorem dX11_person_79 : decode cX11_person 79 = .ok (.iload_n 1, 1) := by decide +kernel
theorem dX11_person_80 : decode cX11_person 80 = .ok (.iadd, 1) := by decide +kernel
theorem dX11_person_81 : decode cX11_person 81 = .ok (.iaload, 1) := by decide +kernel
theorem dX11_person_82 : decode cX11_person 82 = .ok (.ireturn, 1) := by decide +kernel
theorem dX11_person_83 : decode cX11_person 83 = .ok (.aload_n 0, 1) := by decide +kernel
theorem dX11_person_84 : decode cX11_person 84 = .ok (.getfield 48, 3) := by decide +kernel
theorem dX11_person_87 : decode cX11_person 87 = .ok (.bipush 61, 2) := by decide +kernel
theorem dX11_person_89 : decode cX11_person 89 = .ok (.iload_n 1, 1) := by decide +kernel
theorem dX11_person_90 : decode cX11_person 90 = .ok (.iadd, 1) := by decide +kernel
theorem dX11_person_91 : decode cX11_person 91 = .ok (.iaload, 1) := by decide +kernel
theorem dX11_person_92 : decode cX11_person 92 = .ok (.invokestatic 371, 3) := by decide +kernel
theorem dX11_person_95 : decode cX11_person 95 = .ok (.ireturn, 1) := by decide +kernel
theorem dX11_person_96 : decode cX11_person 96 = .ok (.aload_n 0, 1) := by decide +kernel
theorem dX11_person_97 : decode cX11_person 97 = .ok (.getfield 48, 3) := by decide +kernel
theorem dX11_person_100 : decode cX11_person 100 = .ok (.bipush 67, 2) := by decide +kernel
theorem dX11_person_102 : decode cX11_person 102 = .ok (.iload_n 1, 1) := by decide +kernel
theorem dX11_person_103 : decode cX11_person 103 = .ok (.iadd, 1) := by decide +kernel
theorem dX11_person_104 : decode cX11_person 104 = .ok (.iaload, 1) := by decide +kernel
theorem dX11_person_105 : decode cX11_person 105 = .ok (.ireturn, 1) := by decide +kernel
theorem dX11_person_106 : decode cX11_person 106 = .ok (.aload_n 0, 1) := by decide +kernel
theorem dX11_person_107 : decode cX11_person 107 = .ok (.getfield 48, 3) := by decide +kernel
theorem dX11_person_110 : decode cX11_person 110 = .ok (.bipush 61, 2) := by decide +kernel
theorem dX11_person_112 : decode cX11_person 112 = .ok (.iload_n 1, 1) := by decide +kernel
theorem dX11_person_113 : decode cX11_person 113 = .ok (.iadd, 1) := by decide +kernel
theorem dX11_person_114 : decode cX11_person 114 = .ok (.iaload, 1) := by decide +kernel
theorem dX11_person_115 : decode cX11_person 115 = .ok (.iconst (-1), 1) := by decide +kernel
theorem dX11_person_116 : decode cX11_person 116 = .ok (.if_icmp .ne 7, 3) := by decide +kernel
theorem dX11_person_119 : decode cX11_person 119 = .ok (.iconst (-1), 1) := by decide +kernel
theorem dX11_person_120 : decode cX11_person 120 = .ok (.goto 28, 3) := by decide +kernel
theorem dX11_person_123 : decode cX11_person 123 = .ok (.aload_n 0, 1) := by decide +kernel
theorem dX11_person_124 : decode cX11_person 124 = .ok (.aload_n 0, 1) := by decide +kernel
theorem dX11_person_125 : decode cX11_person 125 = .ok (.getfield 48, 3) := by decide +kernel
theorem dX11_person_128 : decode cX11_person 128 = .ok (.bipush 55, 2) := by decide +kernel
theorem dX11_person_130 : decode cX11_person 130 = .ok (.iload_n 1, 1) := by decide +kernel
theorem dX11_person_131 : decode cX11_person 131 = .ok (.iadd, 1) := by decide +kernel
theorem dX11_person_132 : decode cX11_person 132 = .ok (.iaload, 1) := by decide +kernel
theorem dX11_person_133 : decode cX11_person 133 = .ok (.aload_n 0, 1) := by decide +kernel
theorem dX11_person_134 : decode cX11_person 134 = .ok (.getfield 48, 3) := by decide +kernel
theorem dX11_person_137 : decode cX11_person 137 = .ok (.bipush 61, 2) := by decide +kernel
theorem dX11_person_139 : decode cX11_person 139 = .ok (.iload_n 1, 1) := by decide +kernel
theorem dX11_person_140 : decode cX11_person 140 = .ok (.iadd, 1) := by decide +kernel
theorem dX11_person_141 : decode cX11_person 141 = .ok (.iaload, 1) := by decide +kernel
theorem dX11_person_142 : decode cX11_person 142 = .ok (.invokevirtual 374, 3) := by decide +kernel
theorem dX11_person_145 : decode cX11_person 145 = .ok (.invokestatic 377, 3) := by decide +kernel
theorem dX11_person_148 : decode cX11_person 148 = .ok (.ireturn, 1) := by decide +kernel
theorem dX11_person_149 : decode cX11_person 149 = .ok (.aload_n 0, 1) := by decide +kernel
theorem dX11_person_150 : decode cX11_person 150 = .ok (.iconst 0, 1) := by decide +kernel
theorem dX11_person_151 : decode cX11_person 151 = .ok (.aload_n 0, 1) := by decide +kernel
theorem dX11_person_152 : decode cX11_person 152 = .ok (.getfield 48, 3) := by decide +kernel
theorem dX11_person_155 : decode cX11_person 155 = .ok (.bipush 55, 2) := by decide +kernel
theorem dX11_person_157 : decode cX11_person 157 = .ok (.iload_n 1, 1) := by decide +kernel
theorem dX11_person_158 : decode cX11_person 158 = .ok (.iadd, 1) := by decide +kernel
theorem dX11_person_159 : decode cX11_person 159 = .ok (.iaload, 1) := by decide +kernel
theorem dX11_person_160 : decode cX11_person 160 = .ok (.invokevirtual 304, 3) := by decide +kernel
theorem dX11_person_163 : decode cX11_person 163 = .ok (.iconst 1, 1) := by decide +kernel
theorem dX11_person_164 : decode cX11_person 164 = .ok (.isub, 1) := by decide +kernel
theorem dX11_person_165 : decode cX11_person 165 = .ok (.ireturn, 1) := by decide +kernel
theorem dX11_ink_0 : decode cX11_ink 0 = .ok (.aload_n 0, 1) := by decide +kernel
theorem dX11_ink_1 : decode cX11_ink 1 = .ok (.iconst 0, 1) := by decide +kernel
theorem dX11_ink_2 : decode cX11_ink 2 = .ok (.putfield 99, 3) := by decide +kernel
theorem dX11_ink_5 : decode cX11_ink 5 = .ok (.aload_n 0, 1) := by decide +kernel
theorem dX11_ink_6 : decode cX11_ink 6 = .ok (.iload_n 1, 1) := by decide +kernel
theorem dX11_ink_7 : decode cX11_ink 7 = .ok (.invokevirtual 380, 3) := by decide +kernel
theorem dX11_ink_10 : decode cX11_ink 10 = .ok (.istore_n 2, 1) := by decide +kernel
theorem dX11_ink_11 : decode cX11_ink 11 = .ok (.iload_n 2, 1) := by decide +kernel
theorem dX11_ink_12 : decode cX11_ink 12 = .ok (.iconst (-1), 1) := by decide +kernel
theorem dX11_ink_13 : decode cX11_ink 13 = .ok (.if_icmp .ne 7, 3) := by decide +kernel
theorem dX11_ink_16 : decode cX11_ink 16 = .ok (.iconst 0, 1) := by decide +kernel
theorem dX11_ink_17 : decode cX11_ink 17 = .ok (.goto 11, 3) := by decide +kernel
theorem dX11_ink_20 : decode cX11_ink 20 = .ok (.aload_n 0, 1) := by decide +kernel
theorem dX11_ink_21 : decode cX11_ink 21 = .ok (.getfield 48, 3) := by decide +kernel
theorem dX11_ink_24 : decode cX11_ink 24 = .ok (.iconst 1, 1) := by decide +kernel
theorem dX11_ink_25 : decode cX11_ink 25 = .ok (.iload_n 2, 1) := by decide +kernel
theorem dX11_ink_26 : decode cX11_ink 26 = .ok (.iadd, 1) := by decide +kernel
theorem dX11_ink_27 : decode cX11_ink 27 = .ok (.iaload, 1) := by decide +kernel
theorem dX11_ink_28 : decode cX11_ink 28 = .ok (.ireturn, 1) := by decide +kernel
theorem dX11_days_0 : decode cX11_days 0 = .ok (.aload_n 0, 1) := by decide +kernel
theorem dX11_days_1 : decode cX11_days 1 = .ok (.iconst 0, 1) := by decide +kernel
theorem dX11_days_2 : decode cX11_days 2 = .ok (.putfield 99, 3) := by decide +kernel
theorem dX11_days_5 : decode cX11_days 5 = .ok (.iload_n 1, 1) := by decide +kernel
theorem dX11_days_6 : decode cX11_days 6 = .ok (.iconst 1, 1) := by decide +kernel
theorem dX11_days_7 : decode cX11_days 7 = .ok (.bipush 20, 2) := by decide +kernel
theorem dX11_days_9 : decode cX11_days 9 = .ok (.invokestatic 344, 3) := by decide +kernel
theorem dX11_days_12 : decode cX11_days 12 = .ok (.ifCond .eq 17, 3) := by decide +kernel
theorem dX11_days_15 : decode cX11_days 15 = .ok (.aload_n 0, 1) := by decide +kernel
theorem dX11_days_16 : decode cX11_days 16 = .ok (.getfield 48, 3) := by decide +kernel
theorem dX11_days_19 : decode cX11_days 19 = .ok (.iconst 0, 1) := by decide +kernel
theorem dX11_days_20 : decode cX11_days 20 = .ok (.iaload, 1) := by decide +kernel
theorem dX11_days_21 : decode cX11_days 21 = .ok (.iload_n 1, 1) := by decide +kernel
theorem dX11_days_22 : decode cX11_days 22 = .ok (.iadd, 1) := by decide +kernel
theorem dX11_days_23 : decode cX11_days 23 = .ok (.sipush 9999, 3) := by decide +kernel
theorem dX11_days_26 : decode cX11_days 26 = .ok (.if_icmp .le 9, 3) := by decide +kernel
theorem dX11_days_29 : decode cX11_days 29 = .ok (.aload_n 0, 1) := by decide +kernel
theorem dX11_days_30 : decode cX11_days 30 = .ok (.iconst 1, 1) := by decide +kernel
theorem dX11_days_31 : decode cX11_days 31 = .ok (.invokevirtual 383, 3) := by decide +kernel
theorem dX11_days_34 : decode cX11_days 34 = .ok (.ireturn, 1) := by decide +kernel
theorem dX11_days_35 : decode cX11_days 35 = .ok (.aload_n 0, 1) := by decide +kernel
theorem dX11_days_36 : decode cX11_days 36 = .ok (.invokevirtual 386, 3) := by decide +kernel
theorem dX11_days_39 : decode cX11_days 39 = .ok (.iconst 0, 1) := by decide +kernel
theorem dX11_days_40 : decode cX11_days 40 = .ok (.istore_n 2, 1) := by decide +kernel
theorem dX11_days_41 : decode cX11_days 41 = .ok (.iload_n 2, 1) := by decide +kernel
theorem dX11_days_42 : decode cX11_days 42 = .ok (.iload_n 1, 1) := by decide +kernel
theorem dX11_days_43 : decode cX11_days 43 = .ok (.if_icmp .ge 14, 3) := by decide +kernel
theorem dX11_days_46 : decode cX11_days 46 = .ok (.aload_n 0, 1) := by decide +kernel
theorem dX11_days_47 : decode cX11_days 47 = .ok (.iconst 0, 1) := by decide +kernel
theorem dX11_days_48 : decode cX11_days 48 = .ok (.invokevirtual 341, 3) := by decide +kernel
theorem dX11_days_51 : decode cX11_days 51 = .ok (.iinc 2 1, 3) := by decide +kernel
theorem dX11_days_54 : decode cX11_days 54 = .ok (.goto (-13), 3) := by decide +kernel
theorem dX11_days_57 : decode cX11_days 57 = .ok (.aload_n 0, 1) := by decide +kernel
theorem dX11_days_58 : decode cX11_days 58 = .ok (.getfield 48, 3) := by decide +kernel
theorem dX11_days_61 : decode cX11_days 61 = .ok (.iconst 0, 1) := by decide +kernel
theorem dX11_days_62 : decode cX11_days 62 = .ok (.iaload, 1) := by decide +kernel
theorem dX11_days_63 : decode cX11_days 63 = .ok (.ireturn, 1) := by decide +kernel
theorem dX11_type_0 : decode cX11_type 0 = .ok (.aload_n 0, 1) := by decide +kernel
theorem dX11_type_1 : decode cX11_type 1 = .ok (.iconst 0, 1) := by decide +kernel
theorem dX11_type_2 : decode cX11_type 2 = .ok (.putfield 99, 3) := by decide +kernel
theorem dX11_type_5 : decode cX11_type 5 = .ok (.aload_n 0, 1) := by decide +kernel
theorem dX11_type_6 : decode cX11_type 6 = .ok (.iload_n 1, 1) := by decide +kernel
theorem dX11_type_7 : decode cX11_type 7 = .ok (.invokevirtual 380, 3) := by decide +kernel
theorem dX11_type_10 : decode cX11_type 10 = .ok (.istore_n 3, 1) := by decide +kernel
theorem dX11_type_11 : decode cX11_type 11 = .ok (.iload_n 3, 1) := by decide +kernel
theorem dX11_type_12 : decode cX11_type 12 = .ok (.iconst (-1), 1) := by decide +kernel
theorem dX11_type_13 : decode cX11_type 13 = .ok (.if_icmp .ne 5, 3) := by decide +kernel
theorem dX11_type_16 : decode cX11_type 16 = .ok (.iconst 0, 1) := by decide +kernel
theorem dX11_type_17 : decode cX11_type 17 = .ok (.ireturn, 1) := by decide +kernel
theorem dX11_type_18 : decode cX11_type 18 = .ok (.aload_n 0, 1) := by decide +kernel
theorem dX11_type_19 : decode cX11_type 19 = .ok (.getfield 48, 3) := by decide +kernel
theorem dX11_type_22 : decode cX11_type 22 = .ok (.iconst 1, 1) := by decide +kernel
theorem dX11_type_23 : decode cX11_type 23 = .ok (.iload_n 3, 1) := by decide +kernel
theorem dX11_type_24 : decode cX11_type 24 = .ok (.iadd, 1) := by decide +kernel
theorem dX11_type_25 : decode cX11_type 25 = .ok (.iaload, 1) := by decide +kernel
theorem dX11_type_26 : decode cX11_type 26 = .ok (.istore 4, 2) := by decide +kernel
theorem dX11_type_28 : decode cX11_type 28 = .ok (.iload_n 2, 1) := by decide +kernel
theorem dX11_type_29 : decode cX11_type 29 = .ok (.iconst 0, 1) := by decide +kernel
theorem dX11_type_30 : decode cX11_type 30 = .ok (.bipush 9, 2) := by decide +kernel
theorem dX11_type_32 : decode cX11_type 32 = .ok (.invokestatic 344, 3) := by decide +kernel
theorem dX11_type_35 : decode cX11_type 35 = .ok (.ifCond .ne 9, 3) := by decide +kernel
theorem dX11_type_38 : decode cX11_type 38 = .ok (.aload_n 0, 1) := by decide +kernel
theorem dX11_type_39 : decode cX11_type 39 = .ok (.iconst 1, 1) := by decide +kernel
theorem dX11_type_40 : decode cX11_type 40 = .ok (.invokevirtual 383, 3) := by decide +kernel
theorem dX11_type_43 : decode cX11_type 43 = .ok (.ireturn, 1) := by decide +kernel
theorem dX11_type_44 : decode cX11_type 44 = .ok (.aload_n 0, 1) := by decide +kernel
theorem dX11_type_45 : decode cX11_type 45 = .ok (.invokevirtual 386, 3) := by decide +kernel
theorem dX11_type_48 : decode cX11_type 48 = .ok (.aload_n 0, 1) := by decide +kernel
theorem dX11_type_49 : decode cX11_type 49 = .ok (.getfield 48, 3) := by decide +kernel
theorem dX11_type_52 : decode cX11_type 52 = .ok (.iconst 1, 1) := by decide +kernel
theorem dX11_type_53 : decode cX11_type 53 = .ok (.iload_n 3, 1) := by decide +kernel
theorem dX11_type_54 : decode cX11_type 54 = .ok (.iadd, 1) := by decide +kernel
theorem dX11_type_55 : decode cX11_type 55 = .ok (.iload_n 2, 1) := by decide +kernel
theorem dX11_type_56 : decode cX11_type 56 = .ok (.iastore, 1) := by decide +kernel
theorem dX11_type_57 : decode cX11_type 57 = .ok (.iload 4, 2) := by decide +kernel
theorem dX11_type_59 : decode cX11_type 59 = .ok (.ireturn, 1) := by decide +kernel
theorem dX11_stile_0 : decode cX11_stile 0 = .ok (.aload_n 0, 1) := by decide +kernel
theorem dX11_stile_1 : decode cX11_stile 1 = .ok (.iconst 0, 1) := by decide +kernel
theorem dX11_stile_2 : decode cX11_stile 2 = .ok (.putfield 99, 3) := by decide +kernel
theorem dX11_stile_5 : decode cX11_stile 5 = .ok (.aload_n 0, 1) := by decide +kernel
theorem dX11_stile_6 : decode cX11_stile 6 = .ok (.iload_n 1, 1) := by decide +kernel
theorem dX11_stile_7 : decode cX11_stile 7 = .ok (.invokevirtual 380, 3) := by decide +kernel
theorem dX11_stile_10 : decode cX11_stile 10 = .ok (.istore_n 3, 1) := by decide +kernel
theorem dX11_stile_11 : decode cX11_stile 11 = .ok (.iload_n 3, 1) := by decide +kernel
theorem dX11_stile_12 : decode cX11_stile 12 = .ok (.iconst (-1), 1) := by decide +kernel
theorem dX11_stile_13 : decode cX11_stile 13 = .ok (.if_icmp .ne 5, 3) := by decide +kernel
theorem dX11_stile_16 : decode cX11_stile 16 = .ok (.iconst 0, 1) := by decide +kernel
theorem dX11_stile_17 : decode cX11_stile 17 = .ok (.ireturn, 1) := by decide +kernel
theorem dX11_stile_18 : decode cX11_stile 18 = .ok (.iload_n 3, 1) := by decide +kernel
theorem dX11_stile_19 : decode cX11_stile 19 = .ok (.bipush 8, 2) := by decide +kernel
theorem dX11_stile_21 : decode cX11_stile 21 = .ok (.idiv, 1) := by decide +kernel
theorem dX11_stile_22 : decode cX11_stile 22 = .ok (.istore 4, 2) := by decide +kernel
theorem dX11_stile_24 : decode cX11_stile 24 = .ok (.aload_n 0, 1) := by decide +kernel
theorem dX11_stile_25 : decode cX11_stile 25 = .ok (.getfield 48, 3) := by decide +kernel
theorem dX11_stile_28 : decode cX11_stile 28 = .ok (.bipush 49, 2) := by decide +kernel
theorem dX11_stile_30 : decode cX11_stile 30 = .ok (.iload 4, 2) := by decide +kernel
theorem dX11_stile_32 : decode cX11_stile 32 = .ok (.iadd, 1) := by decide +kernel
theorem dX11_stile_33 : decode cX11_stile 33 = .ok (.iaload, 1) := by decide +kernel
theorem dX11_stile_34 : decode cX11_stile 34 = .ok (.iload_n 3, 1) := by decide +kernel
theorem dX11_stile_35 : decode cX11_stile 35 = .ok (.bipush 8, 2) := by decide +kernel
theorem dX11_stile_37 : decode cX11_stile 37 = .ok (.irem, 1) := by decide +kernel
theorem dX11_stile_38 : decode cX11_stile 38 = .ok (.ishr, 1) := by decide +kernel
theorem dX11_stile_39 : decode cX11_stile 39 = .ok (.iconst 1, 1) := by decide +kernel
theorem dX11_stile_40 : decode cX11_stile 40 = .ok (.iand, 1) := by decide +kernel
theorem dX11_stile_41 : decode cX11_stile 41 = .ok (.iconst 1, 1) := by decide +kernel
theorem dX11_stile_42 : decode cX11_stile 42 = .ok (.if_icmp .ne 7, 3) := by decide +kernel
theorem dX11_stile_45 : decode cX11_stile 45 = .ok (.iconst 1, 1) := by decide +kernel
theorem dX11_stile_46 : decode cX11_stile 46 = .ok (.goto 4, 3) := by decide +kernel
theorem dX11_stile_49 : decode cX11_stile 49 = .ok (.iconst 0, 1) := by decide +kernel
theorem dX11_stile_50 : decode cX11_stile 50 = .ok (.istore 5, 2) := by decide +kernel
theorem dX11_stile_52 : decode cX11_stile 52 = .ok (.iload 5, 2) := by decide +kernel
theorem dX11_stile_54 : decode cX11_stile 54 = .ok (.iload_n 2, 1) := by decide +kernel
theorem dX11_stile_55 : decode cX11_stile 55 = .ok (.if_icmp .eq 14, 3) := by decide +kernel
theorem dX11_stile_58 : decode cX11_stile 58 = .ok (.aload_n 0, 1) := by decide +kernel
theorem dX11_stile_59 : decode cX11_stile 59 = .ok (.iload_n 3, 1) := by decide +kernel
theorem dX11_stile_60 : decode cX11_stile 60 = .ok (.bipush 8, 2) := by decide +kernel
theorem dX11_stile_62 : decode cX11_stile 62 = .ok (.iadd, 1) := by decide +kernel
theorem dX11_stile_63 : decode cX11_stile 63 = .ok (.invokevirtual 332, 3) := by decide +kernel
theorem dX11_stile_66 : decode cX11_stile 66 = .ok (.ifCond .ne 17, 3) := by decide +kernel
theorem dX11_stile_69 : decode cX11_stile 69 = .ok (.aload_n 0, 1) := by decide +kernel
theorem dX11_stile_70 : decode cX11_stile 70 = .ok (.iconst 1, 1) := by decide +kernel
theorem dX11_stile_71 : decode cX11_stile 71 = .ok (.invokevirtual 383, 3) := by decide +kernel
theorem dX11_stile_74 : decode cX11_stile 74 = .ok (.ifCond .le 7, 3) := by decide +kernel
theorem dX11_stile_77 : decode cX11_stile 77 = .ok (.iconst 1, 1) := by decide +kernel
theorem dX11_stile_78 : decode cX11_stile 78 = .ok (.goto 4, 3) := by decide +kernel
theorem dX11_stile_81 : decode cX11_stile 81 = .ok (.iconst 0, 1) := by decide +kernel
theorem dX11_stile_82 : decode cX11_stile 82 = .ok (.ireturn, 1) := by decide +kernel
theorem dX11_stile_83 : decode cX11_stile 83 = .ok (.aload_n 0, 1) := by decide +kernel
theorem dX11_stile_84 : decode cX11_stile 84 = .ok (.invokevirtual 386, 3) := by decide +kernel
theorem dX11_stile_87 : decode cX11_stile 87 = .ok (.aload_n 0, 1) := by decide +kernel
theorem dX11_stile_88 : decode cX11_stile 88 = .ok (.getfield 48, 3) := by decide +kernel
theorem dX11_stile_91 : decode cX11_stile 91 = .ok (.bipush 49, 2) := by decide +kernel
theorem dX11_stile_93 : decode cX11_stile 93 = .ok (.iload 4, 2) := by decide +kernel
theorem dX11_stile_95 : decode cX11_stile 95 = .ok (.iadd, 1) := by decide +kernel
theorem dX11_stile_96 : decode cX11_stile 96 = .ok (.dup2, 1) := by decide +kernel
theorem dX11_stile_97 : decode cX11_stile 97 = .ok (.iaload, 1) := by decide +kernel
theorem dX11_stile_98 : decode cX11_stile 98 = .ok (.iload_n 2, 1) := by decide +kernel
theorem dX11_stile_99 : decode cX11_stile 99 = .ok (.ifCond .eq 12, 3) := by decide +kernel
theorem dX11_stile_102 : decode cX11_stile 102 = .ok (.iconst 1, 1) := by decide +kernel
theorem dX11_stile_103 : decode cX11_stile 103 = .ok (.iload_n 3, 1) := by decide +kernel
theorem dX11_stile_104 : decode cX11_stile 104 = .ok (.bipush 8, 2) := by decide +kernel
theorem dX11_stile_106 : decode cX11_stile 106 = .ok (.irem, 1) := by decide +kernel
theorem dX11_stile_107 : decode cX11_stile 107 = .ok (.ishl, 1) := by decide +kernel
theorem dX11_stile_108 : decode cX11_stile 108 = .ok (.goto 11, 3) := by decide +kernel
theorem dX11_stile_111 : decode cX11_stile 111 = .ok (.iconst 0, 1) := by decide +kernel
theorem dX11_stile_112 : decode cX11_stile 112 = .ok (.iconst 1, 1) := by decide +kernel
theorem dX11_stile_113 : decode cX11_stile 113 = .ok (.iload_n 3, 1) := by decide +kernel
theorem dX11_stile_114 : decode cX11_stile 114 = .ok (.bipush 8, 2) := by decide +kernel
theorem dX11_stile_116 : decode cX11_stile 116 = .ok (.irem, 1) := by decide +kernel
theorem dX11_stile_117 : decode cX11_stile 117 = .ok (.ishl, 1) := by decide +kernel
theorem dX11_stile_118 : decode cX11_stile 118 = .ok (.isub, 1) := by decide +kernel
theorem dX11_stile_119 : decode cX11_stile 119 = .ok (.iadd, 1) := by decide +kernel
theorem dX11_stile_120 : decode cX11_stile 120 = .ok (.iastore, 1) := by decide +kernel
theorem dX11_stile_121 : decode cX11_stile 121 = .ok (.iconst 1, 1) := by decide +kernel
theorem dX11_stile_122 : decode cX11_stile 122 = .ok (.ireturn, 1) := by decide +kernel
theorem dX11_send_0 : decode cX11_send 0 = .ok (.aload_n 0, 1) := by decide +kernel
theorem dX11_send_1 : decode cX11_send 1 = .ok (.iconst 0, 1) := by decide +kernel
theorem dX11_send_2 : decode cX11_send 2 = .ok (.putfield 99, 3) := by decide +kernel
theorem dX11_send_5 : decode cX11_send 5 = .ok (.aload_n 0, 1) := by decide +kernel
theorem dX11_send_6 : decode cX11_send 6 = .ok (.iload_n 1, 1) := by decide +kernel
theorem dX11_send_7 : decode cX11_send 7 = .ok (.invokevirtual 368, 3) := by decide +kernel
theorem dX11_send_10 : decode cX11_send 10 = .ok (.ifCond .ne 5, 3) := by decide +kernel
theorem dX11_send_13 : decode cX11_send 13 = .ok (.iconst 0, 1) := by decide +kernel
theorem dX11_send_14 : decode cX11_send 14 = .ok (.ireturn, 1) := by decide +kernel
theorem dX11_send_15 : decode cX11_send 15 = .ok (.iload_n 2, 1) := by decide +kernel
theorem dX11_send_16 : decode cX11_send 16 = .ok (.iconst (-1), 1) := by decide +kernel
theorem dX11_send_17 : decode cX11_send 17 = .ok (.if_icmp .ne 7, 3) := by decide +kernel
theorem dX11_send_20 : decode cX11_send 20 = .ok (.iconst (-1), 1) := by decide +kernel
theorem dX11_send_21 : decode cX11_send 21 = .ok (.goto 8, 3) := by decide +kernel
theorem dX11_send_24 : decode cX11_send 24 = .ok (.aload_n 0, 1) := by decide +kernel
theorem dX11_send_25 : decode cX11_send 25 = .ok (.iload_n 2, 1) := by decide +kernel
theorem dX11_send_26 : decode cX11_send 26 = .ok (.invokevirtual 380, 3) := by decide +kernel
theorem dX11_send_29 : decode cX11_send 29 = .ok (.istore_n 3, 1) := by decide +kernel
theorem dX11_send_30 : decode cX11_send 30 = .ok (.aload_n 0, 1) := by decide +kernel
theorem dX11_send_31 : decode cX11_send 31 = .ok (.getfield 99, 3) := by decide +kernel
theorem dX11_send_34 : decode cX11_send 34 = .ok (.ifCond .eq 5, 3) := by decide +kernel
theorem dX11_send_37 : decode cX11_send 37 = .ok (.iconst 0, 1) := by decide +kernel
theorem dX11_send_38 : decode cX11_send 38 = .ok (.ireturn, 1) := by decide +kernel
theorem dX11_send_39 : decode cX11_send 39 = .ok (.aload_n 0, 1) := by decide +kernel
theorem dX11_send_40 : decode cX11_send 40 = .ok (.getfield 48, 3) := by decide +kernel
theorem dX11_send_43 : decode cX11_send 43 = .ok (.bipush 61, 2) := by decide +kernel
theorem dX11_send_45 : decode cX11_send 45 = .ok (.iload_n 1, 1) := by decide +kernel
theorem dX11_send_46 : decode cX11_send 46 = .ok (.iadd, 1) := by decide +kernel
theorem dX11_send_47 : decode cX11_send 47 = .ok (.iaload, 1) := by decide +kernel
theorem dX11_send_48 : decode cX11_send 48 = .ok (.istore 4, 2) := by decide +kernel
theorem dX11_send_50 : decode cX11_send 50 = .ok (.iload 4, 2) := by decide +kernel
theorem dX11_send_52 : decode cX11_send 52 = .ok (.iload_n 3, 1) := by decide +kernel
theorem dX11_send_53 : decode cX11_send 53 = .ok (.if_icmp .ne 11, 3) := by decide +kernel
theorem dX11_send_56 : decode cX11_send 56 = .ok (.aload_n 0, 1) := by decide +kernel
theorem dX11_send_57 : decode cX11_send 57 = .ok (.iconst 1, 1) := by decide +kernel
theorem dX11_send_58 : decode cX11_send 58 = .ok (.invokevirtual 383, 3) := by decide +kernel
theorem dX11_send_61 : decode cX11_send 61 = .ok (.iconst 1, 1) := by decide +kernel
theorem dX11_send_62 : decode cX11_send 62 = .ok (.isub, 1) := by decide +kernel
theorem dX11_send_63 : decode cX11_send 63 = .ok (.ireturn, 1) := by decide +kernel
theorem dX11_send_64 : decode cX11_send 64 = .ok (.aload_n 0, 1) := by decide +kernel
theorem dX11_send_65 : decode cX11_send 65 = .ok (.invokevirtual 386, 3) := by decide +kernel
theorem dX11_send_68 : decode cX11_send 68 = .ok (.aload_n 0, 1) := by decide +kernel
theorem dX11_send_69 : decode cX11_send 69 = .ok (.getfield 48, 3) := by decide +kernel
theorem dX11_send_72 : decode cX11_send 72 = .ok (.bipush 61, 2) := by decide +kernel
theorem dX11_send_74 : decode cX11_send 74 = .ok (.iload_n 1, 1) := by decide +kernel
theorem dX11_send_75 : decode cX11_send 75 = .ok (.iadd, 1) := by decide +kernel
theorem dX11_send_76 : decode cX11_send 76 = .ok (.iload_n 3, 1) := by decide +kernel
theorem dX11_send_77 : decode cX11_send 77 = .ok (.iastore, 1) := by decide +kernel
theorem dX11_send_78 : decode cX11_send 78 = .ok (.iload 4, 2) := by decide +kernel
theorem dX11_send_80 : decode cX11_send 80 = .ok (.invokestatic 371, 3) := by decide +kernel
theorem dX11_send_83 : decode cX11_send 83 = .ok (.ireturn, 1) := by decide +kernel
theorem dX11_let_0 : decode cX11_let 0 = .ok (.aload_n 0, 1) := by decide +kernel
theorem dX11_let_1 : decode cX11_let 1 = .ok (.iconst 0, 1) := by decide +kernel
theorem dX11_let_2 : decode cX11_let 2 = .ok (.putfield 99, 3) := by decide +kernel
theorem dX11_let_5 : decode cX11_let 5 = .ok (.aload_n 0, 1) := by decide +kernel
theorem dX11_let_6 : decode cX11_let 6 = .ok (.iload_n 1, 1) := by decide +kernel
theorem dX11_let_7 : decode cX11_let 7 = .ok (.invokevirtual 368, 3) := by decide +kernel
theorem dX11_let_10 : decode cX11_let 10 = .ok (.ifCond .ne 5, 3) := by decide +kernel
theorem dX11_let_13 : decode cX11_let 13 = .ok (.iconst 0, 1) := by decide +kernel
theorem dX11_let_14 : decode cX11_let 14 = .ok (.ireturn, 1) := by decide +kernel
theorem dX11_let_15 : decode cX11_let 15 = .ok (.aload_n 0, 1) := by decide +kernel
theorem dX11_let_16 : decode cX11_let 16 = .ok (.iload_n 2, 1) := by decide +kernel
theorem dX11_let_17 : decode cX11_let 17 = .ok (.invokevirtual 380, 3) := by decide +kernel
theorem dX11_let_20 : decode cX11_let 20 = .ok (.istore_n 3, 1) := by decide +kernel
theorem dX11_let_21 : decode cX11_let 21 = .ok (.iload_n 3, 1) := by decide +kernel
theorem dX11_let_22 : decode cX11_let 22 = .ok (.iconst (-1), 1) := by decide +kernel
theorem dX11_let_23 : decode cX11_let 23 = .ok (.if_icmp .ne 5, 3) := by decide +kernel
theorem dX11_let_26 : decode cX11_let 26 = .ok (.iconst 0, 1) := by decide +kernel
theorem dX11_let_27 : decode cX11_let 27 = .ok (.ireturn, 1) := by decide +kernel
theorem dX11_let_28 : decode cX11_let 28 = .ok (.aload_n 0, 1) := by decide +kernel
theorem dX11_let_29 : decode cX11_let 29 = .ok (.getfield 48, 3) := by decide +kernel
theorem dX11_let_32 : decode cX11_let 32 = .ok (.bipush 55, 2) := by decide +kernel
theorem dX11_let_34 : decode cX11_let 34 = .ok (.iload_n 1, 1) := by decide +kernel
theorem dX11_let_35 : decode cX11_let 35 = .ok (.iadd, 1) := by decide +kernel
theorem dX11_let_36 : decode cX11_let 36 = .ok (.iaload, 1) := by decide +kernel
theorem dX11_let_37 : decode cX11_let 37 = .ok (.istore 4, 2) := by decide +kernel
theorem dX11_let_39 : decode cX11_let 39 = .ok (.iload 4, 2) := by decide +kernel
theorem dX11_let_41 : decode cX11_let 41 = .ok (.iload_n 3, 1) := by decide +kernel
theorem dX11_let_42 : decode cX11_let 42 = .ok (.if_icmp .eq 12, 3) := by decide +kernel
theorem dX11_let_45 : decode cX11_let 45 = .ok (.aload_n 0, 1) := by decide +kernel
theorem dX11_let_46 : decode cX11_let 46 = .ok (.iconst 0, 1) := by decide +kernel
theorem dX11_let_47 : decode cX11_let 47 = .ok (.iload_n 3, 1) := by decide +kernel
theorem dX11_let_48 : decode cX11_let 48 = .ok (.invokevirtual 297, 3) := by decide +kernel
theorem dX11_let_51 : decode cX11_let 51 = .ok (.ifCond .ne 9, 3) := by decide +kernel
theorem dX11_let_54 : decode cX11_let 54 = .ok (.aload_n 0, 1) := by decide +kernel
theorem dX11_let_55 : decode cX11_let 55 = .ok (.iconst 1, 1) := by decide +kernel
theorem dX11_let_56 : decode cX11_let 56 = .ok (.invokevirtual 383, 3) := by decide +kernel
theorem dX11_let_59 : decode cX11_let 59 = .ok (.ireturn, 1) := by decide +kernel
theorem dX11_let_60 : decode cX11_let 60 = .ok (.aload_n 0, 1) := by decide +kernel
theorem dX11_let_61 : decode cX11_let 61 = .ok (.invokevirtual 386, 3) := by decide +kernel
theorem dX11_let_64 : decode cX11_let 64 = .ok (.aload_n 0, 1) := by decide +kernel
theorem dX11_let_65 : decode cX11_let 65 = .ok (.getfield 48, 3) := by decide +kernel
theorem dX11_let_68 : decode cX11_let 68 = .ok (.bipush 55, 2) := by decide +kernel
theorem dX11_let_70 : decode cX11_let 70 = .ok (.iload_n 1, 1) := by decide +kernel
theorem dX11_let_71 : decode cX11_let 71 = .ok (.iadd, 1) := by decide +kernel
theorem dX11_let_72 : decode cX11_let 72 = .ok (.iload_n 3, 1) := by decide +kernel
theorem dX11_let_73 : decode cX11_let 73 = .ok (.iastore, 1) := by decide +kernel
theorem dX11_let_74 : decode cX11_let 74 = .ok (.iload 4, 2) := by decide +kernel
theorem dX11_let_76 : decode cX11_let 76 = .ok (.invokestatic 371, 3) := by decide +kernel
theorem dX11_let_79 : decode cX11_let 79 = .ok (.ireturn, 1) := by decide +kernel
theorem dX11_goesTo_0 : decode cX11_goesTo 0 = .ok (.aload_n 0, 1) := by decide +kernel
theorem dX11_goesTo_1 : decode cX11_goesTo 1 = .ok (.invokevirtual 389, 3) := by decide +kernel
theorem dX11_goesTo_4 : decode cX11_goesTo 4 = .ok (.aload_n 0, 1) := by decide +kernel
theorem dX11_goesTo_5 : decode cX11_goesTo 5 = .ok (.iload_n 1, 1) := by decide +kernel
theorem dX11_goesTo_6 : decode cX11_goesTo 6 = .ok (.invokevirtual 392, 3) := by decide +kernel
theorem dX11_goesTo_9 : decode cX11_goesTo 9 = .ok (.return_, 1) := by decide +kernel
theorem dX11_then_0 : decode cX11_then 0 = .ok (.aload_n 0, 1) := by decide +kernel
theorem dX11_then_1 : decode cX11_then 1 = .ok (.iconst 0, 1) := by decide +kernel
theorem dX11_then_2 : decode cX11_then 2 = .ok (.putfield 99, 3) := by decide +kernel
theorem dX11_then_5 : decode cX11_then 5 = .ok (.aload_n 0, 1) := by decide +kernel
theorem dX11_then_6 : decode cX11_then 6 = .ok (.iload_n 1, 1) := by decide +kernel
theorem dX11_then_7 : decode cX11_then 7 = .ok (.invokevirtual 368, 3) := by decide +kernel
theorem dX11_then_10 : decode cX11_then 10 = .ok (.ifCond .eq 22, 3) := by decide +kernel
theorem dX11_then_13 : decode cX11_then 13 = .ok (.aload_n 0, 1) := by decide +kernel
theorem dX11_then_14 : decode cX11_then 14 = .ok (.iload_n 3, 1) := by decide +kernel
theorem dX11_then_15 : decode cX11_then 15 = .ok (.iconst 3, 1) := by decide +kernel
theorem dX11_then_16 : decode cX11_then 16 = .ok (.invokevirtual 365, 3) := by decide +kernel
theorem dX11_then_19 : decode cX11_then 19 = .ok (.ifCond .eq 13, 3) := by decide +kernel
theorem dX11_then_22 : decode cX11_then 22 = .ok (.aload_n 0, 1) := by decide +kernel
theorem dX11_then_23 : decode cX11_then 23 = .ok (.iload_n 2, 1) := by decide +kernel
theorem dX11_then_24 : decode cX11_then 24 = .ok (.iconst 0, 1) := by decide +kernel
theorem dX11_then_25 : decode cX11_then 25 = .ok (.iconst 2, 1) := by decide +kernel
theorem dX11_then_26 : decode cX11_then 26 = .ok (.invokevirtual 395, 3) := by decide +kernel
theorem dX11_then_29 : decode cX11_then 29 = .ok (.ifCond .ne 5, 3) := by decide +kernel
theorem dX11_then_32 : decode cX11_then 32 = .ok (.iconst 0, 1) := by decide +kernel
theorem dX11_then_33 : decode cX11_then 33 = .ok (.ireturn, 1) := by decide +kernel
theorem dX11_then_34 : decode cX11_then 34 = .ok (.aload_n 0, 1) := by decide +kernel
theorem dX11_then_35 : decode cX11_then 35 = .ok (.iload_n 2, 1) := by decide +kernel
theorem dX11_then_36 : decode cX11_then 36 = .ok (.invokevirtual 398, 3) := by decide +kernel
theorem dX11_then_39 : decode cX11_then 39 = .ok (.aload_n 0, 1) := by decide +kernel
theorem dX11_then_40 : decode cX11_then 40 = .ok (.getfield 48, 3) := by decide +kernel
theorem dX11_then_43 : decode cX11_then 43 = .ok (.sipush 134, 3) := by decide +kernel
theorem dX11_then_46 : decode cX11_then 46 = .ok (.iload_n 1, 1) := by decide +kernel
theorem dX11_then_47 : decode cX11_then 47 = .ok (.iadd, 1) := by decide +kernel
theorem dX11_then_48 : decode cX11_then 48 = .ok (.iaload, 1) := by decide +kernel
theorem dX11_then_49 : decode cX11_then 49 = .ok (.istore 4, 2) := by decide +kernel
theorem dX11_then_51 : decode cX11_then 51 = .ok (.iload_n 3, 1) := by decide +kernel
theorem dX11_then_52 : decode cX11_then 52 = .ok (.ifCond .ne 11, 3) := by decide +kernel
theorem dX11_then_55 : decode cX11_then 55 = .ok (.iload 4, 2) := by decide +kernel
theorem dX11_then_57 : decode cX11_then 57 = .ok (.bipush 8, 2) := by decide +kernel
theorem dX11_then_59 : decode cX11_then 59 = .ok (.idiv, 1) := by decide +kernel
theorem dX11_then_60 : decode cX11_then 60 = .ok (.goto 53, 3) := by decide +kernel
theorem dX11_then_63 : decode cX11_then 63 = .ok (.iload_n 3, 1) := by decide +kernel
theorem dX11_then_64 : decode cX11_then 64 = .ok (.iconst 1, 1) := by decide +kernel
theorem dX11_then_65 : decode cX11_then 65 = .ok (.if_icmp .ne 11, 3) := by decide +kernel
theorem dX11_then_68 : decode cX11_then 68 = .ok (.iload 4, 2) := by decide +kernel
theorem dX11_then_70 : decode cX11_then 70 = .ok (.bipush 8, 2) := by decide +kernel
theorem dX11_then_72 : decode cX11_then 72 = .ok (.irem, 1) := by decide +kernel
