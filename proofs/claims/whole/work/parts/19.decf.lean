theorem dJ1_indexOf_4cfef_1 : decode cJ1_indexOf_4cfef 1 = .ok (.invokestatic 88, 3) := by decide +kernel
theorem dJ1_indexOf_4cfef_4 : decode cJ1_indexOf_4cfef 4 = .ok (.ifCond .ne 5, 3) := by decide +kernel
theorem dJ1_indexOf_4cfef_7 : decode cJ1_indexOf_4cfef 7 = .ok (.iconst (-1), 1) := by decide +kernel
theorem dJ1_indexOf_4cfef_8 : decode cJ1_indexOf_4cfef 8 = .ok (.ireturn, 1) := by decide +kernel
theorem dJ1_indexOf_4cfef_9 : decode cJ1_indexOf_4cfef 9 = .ok (.iload_n 2, 1) := by decide +kernel
theorem dJ1_indexOf_4cfef_10 : decode cJ1_indexOf_4cfef 10 = .ok (.iconst 0, 1) := by decide +kernel
theorem dJ1_indexOf_4cfef_11 : decode cJ1_indexOf_4cfef 11 = .ok (.invokestatic 92, 3) := by decide +kernel
theorem dJ1_indexOf_4cfef_14 : decode cJ1_indexOf_4cfef 14 = .ok (.istore_n 2, 1) := by decide +kernel
theorem dJ1_indexOf_4cfef_15 : decode cJ1_indexOf_4cfef 15 = .ok (.iload_n 3, 1) := by decide +kernel
theorem dJ1_indexOf_4cfef_16 : decode cJ1_indexOf_4cfef 16 = .ok (.aload_n 0, 1) := by decide +kernel
theorem dJ1_indexOf_4cfef_17 : decode cJ1_indexOf_4cfef 17 = .ok (.arraylength, 1) := by decide +kernel
theorem dJ1_indexOf_4cfef_18 : decode cJ1_indexOf_4cfef 18 = .ok (.invokestatic 38, 3) := by decide +kernel
theorem dJ1_indexOf_4cfef_21 : decode cJ1_indexOf_4cfef 21 = .ok (.istore_n 3, 1) := by decide +kernel
theorem dJ1_indexOf_4cfef_22 : decode cJ1_indexOf_4cfef 22 = .ok (.iload_n 2, 1) := by decide +kernel
theorem dJ1_indexOf_4cfef_23 : decode cJ1_indexOf_4cfef 23 = .ok (.iload_n 3, 1) := by decide +kernel
theorem dJ1_indexOf_4cfef_24 : decode cJ1_indexOf_4cfef 24 = .ok (.if_icmp .lt 5, 3) := by decide +kernel
theorem dJ1_indexOf_4cfef_27 : decode cJ1_indexOf_4cfef 27 = .ok (.iconst (-1), 1) := by decide +kernel
theorem dJ1_indexOf_4cfef_28 : decode cJ1_indexOf_4cfef 28 = .ok (.ireturn, 1) := by decide +kernel
theorem dJ1_indexOf_4cfef_29 : decode cJ1_indexOf_4cfef 29 = .ok (.aload_n 0, 1) := by decide +kernel
theorem dJ1_indexOf_4cfef_30 : decode cJ1_indexOf_4cfef 30 = .ok (.iload_n 1, 1) := by decide +kernel
theorem dJ1_indexOf_4cfef_31 : decode cJ1_indexOf_4cfef 31 = .ok (.iload_n 2, 1) := by decide +kernel
theorem dJ1_indexOf_4cfef_32 : decode cJ1_indexOf_4cfef 32 = .ok (.iload_n 3, 1) := by decide +kernel
theorem dJ1_indexOf_4cfef_33 : decode cJ1_indexOf_4cfef 33 = .ok (.invokestatic 95, 3) := by decide +kernel
theorem dJ1_indexOf_4cfef_36 : decode cJ1_indexOf_4cfef 36 = .ok (.ireturn, 1) := by decide +kernel
theorem dJ1_indexOfChar_4cfef_0 : decode cJ1_indexOfChar_4cfef 0 = .ok (.iload_n 1, 1) := by decide +kernel
theorem dJ1_indexOfChar_4cfef_1 : decode cJ1_indexOfChar_4cfef 1 = .ok (.i2b, 1) := by decide +kernel
theorem dJ1_indexOfChar_4cfef_2 : decode cJ1_indexOfChar_4cfef 2 = .ok (.istore 4, 2) := by decide +kernel
theorem dJ1_indexOfChar_4cfef_4 : decode cJ1_indexOfChar_4cfef 4 = .ok (.iload_n 2, 1) := by decide +kernel
theorem dJ1_indexOfChar_4cfef_5 : decode cJ1_indexOfChar_4cfef 5 = .ok (.istore 5, 2) := by decide +kernel
theorem dJ1_indexOfChar_4cfef_7 : decode cJ1_indexOfChar_4cfef 7 = .ok (.iload 5, 2) := by decide +kernel
theorem dJ1_indexOfChar_4cfef_9 : decode cJ1_indexOfChar_4cfef 9 = .ok (.iload_n 3, 1) := by decide +kernel
theorem dJ1_indexOfChar_4cfef_10 : decode cJ1_indexOfChar_4cfef 10 = .ok (.if_icmp .ge 21, 3) := by decide +kernel
theorem dJ1_indexOfChar_4cfef_13 : decode cJ1_indexOfChar_4cfef 13 = .ok (.aload_n 0, 1) := by decide +kernel
theorem dJ1_indexOfChar_4cfef_14 : decode cJ1_indexOfChar_4cfef 14 = .ok (.iload 5, 2) := by decide +kernel
theorem dJ1_indexOfChar_4cfef_16 : decode cJ1_indexOfChar_4cfef 16 = .ok (.baload, 1) := by decide +kernel
theorem dJ1_indexOfChar_4cfef_17 : decode cJ1_indexOfChar_4cfef 17 = .ok (.iload 4, 2) := by decide +kernel
theorem dJ1_indexOfChar_4cfef_19 : decode cJ1_indexOfChar_4cfef 19 = .ok (.if_icmp .ne 6, 3) := by decide +kernel
theorem dJ1_indexOfChar_4cfef_22 : decode cJ1_indexOfChar_4cfef 22 = .ok (.iload 5, 2) := by decide +kernel
theorem dJ1_indexOfChar_4cfef_24 : decode cJ1_indexOfChar_4cfef 24 = .ok (.ireturn, 1) := by decide +kernel
theorem dJ1_indexOfChar_4cfef_25 : decode cJ1_indexOfChar_4cfef 25 = .ok (.iinc 5 1, 3) := by decide +kernel
theorem dJ1_indexOfChar_4cfef_28 : decode cJ1_indexOfChar_4cfef 28 = .ok (.goto (-21), 3) := by decide +kernel
theorem dJ1_indexOfChar_4cfef_31 : decode cJ1_indexOfChar_4cfef 31 = .ok (.iconst (-1), 1) := by decide +kernel
theorem dJ1_indexOfChar_4cfef_32 : decode cJ1_indexOfChar_4cfef 32 = .ok (.ireturn, 1) := by decide +kernel
theorem dJ3_checkIndex_8e157_0 : decode cJ3_checkIndex_8e157 0 = .ok (.iload_n 0, 1) := by decide +kernel
theorem dJ3_checkIndex_8e157_1 : decode cJ3_checkIndex_8e157 1 = .ok (.ifCond .lt 8, 3) := by decide +kernel
theorem dJ3_checkIndex_8e157_4 : decode cJ3_checkIndex_8e157 4 = .ok (.iload_n 0, 1) := by decide +kernel
theorem dJ3_checkIndex_8e157_5 : decode cJ3_checkIndex_8e157 5 = .ok (.iload_n 1, 1) := by decide +kernel
theorem dJ3_checkIndex_8e157_6 : decode cJ3_checkIndex_8e157 6 = .ok (.if_icmp .lt 10, 3) := by decide +kernel
theorem dJ3_checkIndex_8e157_9 : decode cJ3_checkIndex_8e157 9 = .ok (.aload_n 2, 1) := by decide +kernel
theorem dJ3_checkIndex_8e157_10 : decode cJ3_checkIndex_8e157 10 = .ok (.iload_n 0, 1) := by decide +kernel
theorem dJ3_checkIndex_8e157_11 : decode cJ3_checkIndex_8e157 11 = .ok (.iload_n 1, 1) := by decide +kernel
theorem dJ3_checkIndex_8e157_12 : decode cJ3_checkIndex_8e157 12 = .ok (.invokestatic 95, 3) := by decide +kernel
theorem dJ3_checkIndex_8e157_15 : decode cJ3_checkIndex_8e157 15 = .ok (.athrow, 1) := by decide +kernel
theorem dJ3_checkIndex_8e157_16 : decode cJ3_checkIndex_8e157 16 = .ok (.iload_n 0, 1) := by decide +kernel
theorem dJ3_checkIndex_8e157_17 : decode cJ3_checkIndex_8e157 17 = .ok (.ireturn, 1) := by decide +kernel
theorem dL_cellar_0 : decode cL_cellar 0 = .ok (.aload_n 2, 1) := by decide +kernel
theorem dL_cellar_1 : decode cL_cellar 1 = .ok (.iconst 0, 1) := by decide +kernel
theorem dL_cellar_2 : decode cL_cellar 2 = .ok (.aload_n 0, 1) := by decide +kernel
theorem dL_cellar_3 : decode cL_cellar 3 = .ok (.iload_n 1, 1) := by decide +kernel
theorem dL_cellar_4 : decode cL_cellar 4 = .ok (.invokevirtual 7, 3) := by decide +kernel
theorem dL_cellar_7 : decode cL_cellar 7 = .ok (.i2l, 1) := by decide +kernel
theorem dL_cellar_8 : decode cL_cellar 8 = .ok (.lastore, 1) := by decide +kernel
theorem dL_cellar_9 : decode cL_cellar 9 = .ok (.goto 6, 3) := by decide +kernel
theorem dL_cellar_12 : decode cL_cellar 12 = .ok (.astore_n 3, 1) := by decide +kernel
theorem dL_cellar_13 : decode cL_cellar 13 = .ok (.iconst 1, 1) := by decide +kernel
theorem dL_cellar_14 : decode cL_cellar 14 = .ok (.ireturn, 1) := by decide +kernel
theorem dL_cellar_15 : decode cL_cellar 15 = .ok (.iconst 0, 1) := by decide +kernel
theorem dL_cellar_16 : decode cL_cellar 16 = .ok (.ireturn, 1) := by decide +kernel
theorem dL_count_0 : decode cL_count 0 = .ok (.aload_n 2, 1) := by decide +kernel
theorem dL_count_1 : decode cL_count 1 = .ok (.iconst 0, 1) := by decide +kernel
theorem dL_count_2 : decode cL_count 2 = .ok (.aload_n 0, 1) := by decide +kernel
theorem dL_count_3 : decode cL_count 3 = .ok (.iload_n 1, 1) := by decide +kernel
theorem dL_count_4 : decode cL_count 4 = .ok (.invokevirtual 15, 3) := by decide +kernel
theorem dL_count_7 : decode cL_count 7 = .ok (.i2l, 1) := by decide +kernel
theorem dL_count_8 : decode cL_count 8 = .ok (.lastore, 1) := by decide +kernel
theorem dL_count_9 : decode cL_count 9 = .ok (.goto 6, 3) := by decide +kernel
theorem dL_count_12 : decode cL_count 12 = .ok (.astore_n 3, 1) := by decide +kernel
theorem dL_count_13 : decode cL_count 13 = .ok (.iconst 1, 1) := by decide +kernel
theorem dL_count_14 : decode cL_count 14 = .ok (.ireturn, 1) := by decide +kernel
theorem dL_count_15 : decode cL_count 15 = .ok (.iconst 0, 1) := by decide +kernel
theorem dL_count_16 : decode cL_count 16 = .ok (.ireturn, 1) := by decide +kernel
theorem dL_deed_0 : decode cL_deed 0 = .ok (.aload_n 3, 1) := by decide +kernel
theorem dL_deed_1 : decode cL_deed 1 = .ok (.iconst 0, 1) := by decide +kernel
theorem dL_deed_2 : decode cL_deed 2 = .ok (.aload_n 0, 1) := by decide +kernel
theorem dL_deed_3 : decode cL_deed 3 = .ok (.iload_n 1, 1) := by decide +kernel
theorem dL_deed_4 : decode cL_deed 4 = .ok (.iload_n 2, 1) := by decide +kernel
theorem dL_deed_5 : decode cL_deed 5 = .ok (.invokevirtual 20, 3) := by decide +kernel
theorem dL_deed_8 : decode cL_deed 8 = .ok (.i2l, 1) := by decide +kernel
theorem dL_deed_9 : decode cL_deed 9 = .ok (.lastore, 1) := by decide +kernel
theorem dL_deed_10 : decode cL_deed 10 = .ok (.goto 7, 3) := by decide +kernel
theorem dL_deed_13 : decode cL_deed 13 = .ok (.astore 4, 2) := by decide +kernel
theorem dL_deed_15 : decode cL_deed 15 = .ok (.iconst 1, 1) := by decide +kernel
theorem dL_deed_16 : decode cL_deed 16 = .ok (.ireturn, 1) := by decide +kernel
theorem dL_deed_17 : decode cL_deed 17 = .ok (.iconst 0, 1) := by decide +kernel
theorem dL_deed_18 : decode cL_deed 18 = .ok (.ireturn, 1) := by decide +kernel
theorem dL_person_0 : decode cL_person 0 = .ok (.aload_n 3, 1) := by decide +kernel
theorem dL_person_1 : decode cL_person 1 = .ok (.iconst 0, 1) := by decide +kernel
theorem dL_person_2 : decode cL_person 2 = .ok (.aload_n 0, 1) := by decide +kernel
theorem dL_person_3 : decode cL_person 3 = .ok (.iload_n 1, 1) := by decide +kernel
theorem dL_person_4 : decode cL_person 4 = .ok (.iload_n 2, 1) := by decide +kernel
theorem dL_person_5 : decode cL_person 5 = .ok (.invokevirtual 24, 3) := by decide +kernel
theorem dL_person_8 : decode cL_person 8 = .ok (.i2l, 1) := by decide +kernel
theorem dL_person_9 : decode cL_person 9 = .ok (.lastore, 1) := by decide +kernel
theorem dL_person_10 : decode cL_person 10 = .ok (.goto 7, 3) := by decide +kernel
theorem dL_person_13 : decode cL_person 13 = .ok (.astore 4, 2) := by decide +kernel
theorem dL_person_15 : decode cL_person 15 = .ok (.iconst 1, 1) := by decide +kernel
theorem dL_person_16 : decode cL_person 16 = .ok (.ireturn, 1) := by decide +kernel
theorem dL_person_17 : decode cL_person 17 = .ok (.iconst 0, 1) := by decide +kernel
theorem dL_person_18 : decode cL_person 18 = .ok (.ireturn, 1) := by decide +kernel
theorem dL_ink_0 : decode cL_ink 0 = .ok (.aload_n 2, 1) := by decide +kernel
theorem dL_ink_1 : decode cL_ink 1 = .ok (.iconst 0, 1) := by decide +kernel
theorem dL_ink_2 : decode cL_ink 2 = .ok (.aload_n 0, 1) := by decide +kernel
theorem dL_ink_3 : decode cL_ink 3 = .ok (.iload_n 1, 1) := by decide +kernel
theorem dL_ink_4 : decode cL_ink 4 = .ok (.invokevirtual 27, 3) := by decide +kernel
theorem dL_ink_7 : decode cL_ink 7 = .ok (.i2l, 1) := by decide +kernel
theorem dL_ink_8 : decode cL_ink 8 = .ok (.lastore, 1) := by decide +kernel
theorem dL_ink_9 : decode cL_ink 9 = .ok (.goto 6, 3) := by decide +kernel
theorem dL_ink_12 : decode cL_ink 12 = .ok (.astore_n 3, 1) := by decide +kernel
theorem dL_ink_13 : decode cL_ink 13 = .ok (.iconst 1, 1) := by decide +kernel
theorem dL_ink_14 : decode cL_ink 14 = .ok (.ireturn, 1) := by decide +kernel
theorem dL_ink_15 : decode cL_ink 15 = .ok (.iconst 0, 1) := by decide +kernel
theorem dL_ink_16 : decode cL_ink 16 = .ok (.ireturn, 1) := by decide +kernel
theorem dL_type_0 : decode cL_type 0 = .ok (.aload_n 3, 1) := by decide +kernel
theorem dL_type_1 : decode cL_type 1 = .ok (.iconst 0, 1) := by decide +kernel
theorem dL_type_2 : decode cL_type 2 = .ok (.aload_n 0, 1) := by decide +kernel
theorem dL_type_3 : decode cL_type 3 = .ok (.iload_n 1, 1) := by decide +kernel
theorem dL_type_4 : decode cL_type 4 = .ok (.iload_n 2, 1) := by decide +kernel
theorem dL_type_5 : decode cL_type 5 = .ok (.invokevirtual 30, 3) := by decide +kernel
theorem dL_type_8 : decode cL_type 8 = .ok (.i2l, 1) := by decide +kernel
theorem dL_type_9 : decode cL_type 9 = .ok (.lastore, 1) := by decide +kernel
theorem dL_type_10 : decode cL_type 10 = .ok (.goto 7, 3) := by decide +kernel
theorem dL_type_13 : decode cL_type 13 = .ok (.astore 4, 2) := by decide +kernel
theorem dL_type_15 : decode cL_type 15 = .ok (.iconst 1, 1) := by decide +kernel
theorem dL_type_16 : decode cL_type 16 = .ok (.ireturn, 1) := by decide +kernel
theorem dL_type_17 : decode cL_type 17 = .ok (.iconst 0, 1) := by decide +kernel
theorem dL_type_18 : decode cL_type 18 = .ok (.ireturn, 1) := by decide +kernel
theorem dL_stile_0 : decode cL_stile 0 = .ok (.aload_n 3, 1) := by decide +kernel
theorem dL_stile_1 : decode cL_stile 1 = .ok (.iconst 0, 1) := by decide +kernel
theorem dL_stile_2 : decode cL_stile 2 = .ok (.aload_n 0, 1) := by decide +kernel
theorem dL_stile_3 : decode cL_stile 3 = .ok (.iload_n 1, 1) := by decide +kernel
theorem dL_stile_4 : decode cL_stile 4 = .ok (.iload_n 2, 1) := by decide +kernel
theorem dL_stile_5 : decode cL_stile 5 = .ok (.invokevirtual 33, 3) := by decide +kernel
theorem dL_stile_8 : decode cL_stile 8 = .ok (.ifCond .eq 7, 3) := by decide +kernel
theorem dL_stile_11 : decode cL_stile 11 = .ok (.lconst 1, 1) := by decide +kernel
theorem dL_stile_12 : decode cL_stile 12 = .ok (.goto 4, 3) := by decide +kernel
theorem dL_stile_15 : decode cL_stile 15 = .ok (.lconst 0, 1) := by decide +kernel
theorem dL_stile_16 : decode cL_stile 16 = .ok (.lastore, 1) := by decide +kernel
theorem dL_stile_17 : decode cL_stile 17 = .ok (.goto 7, 3) := by decide +kernel
theorem dL_stile_20 : decode cL_stile 20 = .ok (.astore 4, 2) := by decide +kernel
theorem dL_stile_22 : decode cL_stile 22 = .ok (.iconst 1, 1) := by decide +kernel
theorem dL_stile_23 : decode cL_stile 23 = .ok (.ireturn, 1) := by decide +kernel
theorem dL_stile_24 : decode cL_stile 24 = .ok (.iconst 0, 1) := by decide +kernel
theorem dL_stile_25 : decode cL_stile 25 = .ok (.ireturn, 1) := by decide +kernel
theorem dL_send_0 : decode cL_send 0 = .ok (.aload_n 3, 1) := by decide +kernel
theorem dL_send_1 : decode cL_send 1 = .ok (.iconst 0, 1) := by decide +kernel
theorem dL_send_2 : decode cL_send 2 = .ok (.aload_n 0, 1) := by decide +kernel
theorem dL_send_3 : decode cL_send 3 = .ok (.iload_n 1, 1) := by decide +kernel
theorem dL_send_4 : decode cL_send 4 = .ok (.iload_n 2, 1) := by decide +kernel
theorem dL_send_5 : decode cL_send 5 = .ok (.invokevirtual 37, 3) := by decide +kernel
theorem dL_send_8 : decode cL_send 8 = .ok (.i2l, 1) := by decide +kernel
theorem dL_send_9 : decode cL_send 9 = .ok (.lastore, 1) := by decide +kernel
theorem dL_send_10 : decode cL_send 10 = .ok (.goto 7, 3) := by decide +kernel
theorem dL_send_13 : decode cL_send 13 = .ok (.astore 4, 2) := by decide +kernel
theorem dL_send_15 : decode cL_send 15 = .ok (.iconst 1, 1) := by decide +kernel
theorem dL_send_16 : decode cL_send 16 = .ok (.ireturn, 1) := by decide +kernel
theorem dL_send_17 : decode cL_send 17 = .ok (.iconst 0, 1) := by decide +kernel
theorem dL_send_18 : decode cL_send 18 = .ok (.ireturn, 1) := by decide +kernel
theorem dL_let_0 : decode cL_let 0 = .ok (.aload_n 3, 1) := by decide +kernel
theorem dL_let_1 : decode cL_let 1 = .ok (.iconst 0, 1) := by decide +kernel
theorem dL_let_2 : decode cL_let 2 = .ok (.aload_n 0, 1) := by decide +kernel
theorem dL_let_3 : decode cL_let 3 = .ok (.iload_n 1, 1) := by decide +kernel
theorem dL_let_4 : decode cL_let 4 = .ok (.iload_n 2, 1) := by decide +kernel
theorem dL_let_5 : decode cL_let 5 = .ok (.invokevirtual 40, 3) := by decide +kernel
theorem dL_let_8 : decode cL_let 8 = .ok (.i2l, 1) := by decide +kernel
theorem dL_let_9 : decode cL_let 9 = .ok (.lastore, 1) := by decide +kernel
theorem dL_let_10 : decode cL_let 10 = .ok (.goto 7, 3) := by decide +kernel
theorem dL_let_13 : decode cL_let 13 = .ok (.astore 4, 2) := by decide +kernel
theorem dL_let_15 : decode cL_let 15 = .ok (.iconst 1, 1) := by decide +kernel
theorem dL_let_16 : decode cL_let 16 = .ok (.ireturn, 1) := by decide +kernel
theorem dL_let_17 : decode cL_let 17 = .ok (.iconst 0, 1) := by decide +kernel
theorem dL_let_18 : decode cL_let 18 = .ok (.ireturn, 1) := by decide +kernel
theorem dL_then_0 : decode cL_then 0 = .ok (.aload 4, 2) := by decide +kernel
theorem dL_then_2 : decode cL_then 2 = .ok (.iconst 0, 1) := by decide +kernel
theorem dL_then_3 : decode cL_then 3 = .ok (.aload_n 0, 1) := by decide +kernel
theorem dL_then_4 : decode cL_then 4 = .ok (.iload_n 1, 1) := by decide +kernel
theorem dL_then_5 : decode cL_then 5 = .ok (.iload_n 2, 1) := by decide +kernel
theorem dL_then_6 : decode cL_then 6 = .ok (.iload_n 3, 1) := by decide +kernel
theorem dL_then_7 : decode cL_then 7 = .ok (.invokevirtual 43, 3) := by decide +kernel
theorem dL_then_10 : decode cL_then 10 = .ok (.i2l, 1) := by decide +kernel
theorem dL_then_11 : decode cL_then 11 = .ok (.lastore, 1) := by decide +kernel
theorem dL_then_12 : decode cL_then 12 = .ok (.goto 11, 3) := by decide +kernel
theorem dL_then_15 : decode cL_then 15 = .ok (.astore 5, 2) := by decide +kernel
theorem dL_then_17 : decode cL_then 17 = .ok (.iconst 1, 1) := by decide +kernel
theorem dL_then_18 : decode cL_then 18 = .ok (.ireturn, 1) := by decide +kernel
theorem dL_then_19 : decode cL_then 19 = .ok (.astore 5, 2) := by decide +kernel
theorem dL_then_21 : decode cL_then 21 = .ok (.iconst 2, 1) := by decide +kernel
theorem dL_then_22 : decode cL_then 22 = .ok (.ireturn, 1) := by decide +kernel
theorem dL_then_23 : decode cL_then 23 = .ok (.iconst 0, 1) := by decide +kernel
theorem dL_then_24 : decode cL_then 24 = .ok (.ireturn, 1) := by decide +kernel
theorem dL_comes_0 : decode cL_comes 0 = .ok (.aload_n 2, 1) := by decide +kernel
theorem dL_comes_1 : decode cL_comes 1 = .ok (.iconst 0, 1) := by decide +kernel
theorem dL_comes_2 : decode cL_comes 2 = .ok (.aload_n 0, 1) := by decide +kernel
theorem dL_comes_3 : decode cL_comes 3 = .ok (.iload_n 1, 1) := by decide +kernel
theorem dL_comes_4 : decode cL_comes 4 = .ok (.invokevirtual 47, 3) := by decide +kernel
theorem dL_comes_7 : decode cL_comes 7 = .ok (.i2l, 1) := by decide +kernel
theorem dL_comes_8 : decode cL_comes 8 = .ok (.lastore, 1) := by decide +kernel
theorem dL_comes_9 : decode cL_comes 9 = .ok (.goto 6, 3) := by decide +kernel
theorem dL_comes_12 : decode cL_comes 12 = .ok (.astore_n 3, 1) := by decide +kernel
theorem dL_comes_13 : decode cL_comes 13 = .ok (.iconst 1, 1) := by decide +kernel
theorem dL_comes_14 : decode cL_comes 14 = .ok (.ireturn, 1) := by decide +kernel
theorem dL_comes_15 : decode cL_comes 15 = .ok (.iconst 0, 1) := by decide +kernel
theorem dL_comes_16 : decode cL_comes 16 = .ok (.ireturn, 1) := by decide +kernel
theorem dL_meet_0 : decode cL_meet 0 = .ok (.aload_n 3, 1) := by decide +kernel
theorem dL_meet_1 : decode cL_meet 1 = .ok (.iconst 0, 1) := by decide +kernel
theorem dL_meet_2 : decode cL_meet 2 = .ok (.aload_n 0, 1) := by decide +kernel
theorem dL_meet_3 : decode cL_meet 3 = .ok (.iload_n 1, 1) := by decide +kernel
theorem dL_meet_4 : decode cL_meet 4 = .ok (.iload_n 2, 1) := by decide +kernel
theorem dL_meet_5 : decode cL_meet 5 = .ok (.invokevirtual 50, 3) := by decide +kernel
theorem dL_meet_8 : decode cL_meet 8 = .ok (.i2l, 1) := by decide +kernel
theorem dL_meet_9 : decode cL_meet 9 = .ok (.lastore, 1) := by decide +kernel
theorem dL_meet_10 : decode cL_meet 10 = .ok (.goto 7, 3) := by decide +kernel
theorem dL_meet_13 : decode cL_meet 13 = .ok (.astore 4, 2) := by decide +kernel
theorem dL_meet_15 : decode cL_meet 15 = .ok (.iconst 1, 1) := by decide +kernel
theorem dL_meet_16 : decode cL_meet 16 = .ok (.ireturn, 1) := by decide +kernel
theorem dL_meet_17 : decode cL_meet 17 = .ok (.iconst 0, 1) := by decide +kernel
theorem dL_meet_18 : decode cL_meet 18 = .ok (.ireturn, 1) := by decide +kernel
theorem dL_later_0 : decode cL_later 0 = .ok (.aload_n 3, 1) := by decide +kernel
theorem dL_later_1 : decode cL_later 1 = .ok (.iconst 0, 1) := by decide +kernel
theorem dL_later_2 : decode cL_later 2 = .ok (.aload_n 0, 1) := by decide +kernel
theorem dL_later_3 : decode cL_later 3 = .ok (.iload_n 1, 1) := by decide +kernel
theorem dL_later_4 : decode cL_later 4 = .ok (.iload_n 2, 1) := by decide +kernel
theorem dL_later_5 : decode cL_later 5 = .ok (.invokevirtual 53, 3) := by decide +kernel
theorem dL_later_8 : decode cL_later 8 = .ok (.i2l, 1) := by decide +kernel
theorem dL_later_9 : decode cL_later 9 = .ok (.lastore, 1) := by decide +kernel
theorem dL_later_10 : decode cL_later 10 = .ok (.goto 11, 3) := by decide +kernel
theorem dL_later_13 : decode cL_later 13 = .ok (.astore 4, 2) := by decide +kernel
theorem dL_later_15 : decode cL_later 15 = .ok (.iconst 1, 1) := by decide +kernel
theorem dL_later_16 : decode cL_later 16 = .ok (.ireturn, 1) := by decide +kernel
theorem dL_later_17 : decode cL_later 17 = .ok (.astore 4, 2) := by decide +kernel
theorem dL_later_19 : decode cL_later 19 = .ok (.iconst 2, 1) := by decide +kernel
theorem dL_later_20 : decode cL_later 20 = .ok (.ireturn, 1) := by decide +kernel
theorem dL_later_21 : decode cL_later 21 = .ok (.iconst 0, 1) := by decide +kernel
theorem dL_later_22 : decode cL_later 22 = .ok (.ireturn, 1) := by decide +kernel
theorem dL_clear_0 : decode cL_clear 0 = .ok (.aload_n 2, 1) := by decide +kernel
theorem dL_clear_1 : decode cL_clear 1 = .ok (.iconst 0, 1) := by decide +kernel
theorem dL_clear_2 : decode cL_clear 2 = .ok (.aload_n 0, 1) := by decide +kernel
theorem dL_clear_3 : decode cL_clear 3 = .ok (.iload_n 1, 1) := by decide +kernel
theorem dL_clear_4 : decode cL_clear 4 = .ok (.invokevirtual 56, 3) := by decide +kernel
theorem dL_clear_7 : decode cL_clear 7 = .ok (.i2l, 1) := by decide +kernel
theorem dL_clear_8 : decode cL_clear 8 = .ok (.lastore, 1) := by decide +kernel
theorem dL_clear_9 : decode cL_clear 9 = .ok (.goto 6, 3) := by decide +kernel
theorem dL_clear_12 : decode cL_clear 12 = .ok (.astore_n 3, 1) := by decide +kernel
theorem dL_clear_13 : decode cL_clear 13 = .ok (.iconst 1, 1) := by decide +kernel
theorem dL_clear_14 : decode cL_clear 14 = .ok (.ireturn, 1) := by decide +kernel
theorem dL_clear_15 : decode cL_clear 15 = .ok (.iconst 0, 1) := by decide +kernel
theorem dL_clear_16 : decode cL_clear 16 = .ok (.ireturn, 1) := by decide +kernel
theorem dL_way_0 : decode cL_way 0 = .ok (.aload 4, 2) := by decide +kernel
theorem dL_way_2 : decode cL_way 2 = .ok (.iconst 0, 1) := by decide +kernel
theorem dL_way_3 : decode cL_way 3 = .ok (.aload_n 0, 1) := by decide +kernel
theorem dL_way_4 : decode cL_way 4 = .ok (.iload_n 1, 1) := by decide +kernel
theorem dL_way_5 : decode cL_way 5 = .ok (.iload_n 2, 1) := by decide +kernel
theorem dL_way_6 : decode cL_way 6 = .ok (.iload_n 3, 1) := by decide +kernel
theorem dL_way_7 : decode cL_way 7 = .ok (.invokevirtual 59, 3) := by decide +kernel
theorem dL_way_10 : decode cL_way 10 = .ok (.i2l, 1) := by decide +kernel
theorem dL_way_11 : decode cL_way 11 = .ok (.lastore, 1) := by decide +kernel
theorem dL_way_12 : decode cL_way 12 = .ok (.goto 7, 3) := by decide +kernel
theorem dL_way_15 : decode cL_way 15 = .ok (.astore 5, 2) := by decide +kernel
theorem dL_way_17 : decode cL_way 17 = .ok (.iconst 1, 1) := by decide +kernel
theorem dL_way_18 : decode cL_way 18 = .ok (.ireturn, 1) := by decide +kernel
theorem dL_way_19 : decode cL_way 19 = .ok (.iconst 0, 1) := by decide +kernel
theorem dL_way_20 : decode cL_way 20 = .ok (.ireturn, 1) := by decide +kernel
theorem dL_reached_0 : decode cL_reached 0 = .ok (.aload_n 3, 1) := by decide +kernel
theorem dL_reached_1 : decode cL_reached 1 = .ok (.iconst 0, 1) := by decide +kernel
theorem dL_reached_2 : decode cL_reached 2 = .ok (.aload_n 0, 1) := by decide +kernel
theorem dL_reached_3 : decode cL_reached 3 = .ok (.iload_n 1, 1) := by decide +kernel
theorem dL_reached_4 : decode cL_reached 4 = .ok (.iload_n 2, 1) := by decide +kernel
theorem dL_reached_5 : decode cL_reached 5 = .ok (.invokevirtual 62, 3) := by decide +kernel
theorem dL_reached_8 : decode cL_reached 8 = .ok (.i2l, 1) := by decide +kernel
theorem dL_reached_9 : decode cL_reached 9 = .ok (.lastore, 1) := by decide +kernel
theorem dL_reached_10 : decode cL_reached 10 = .ok (.goto 7, 3) := by decide +kernel
theorem dL_reached_13 : decode cL_reached 13 = .ok (.astore 4, 2) := by decide +kernel
theorem dL_reached_15 : decode cL_reached 15 = .ok (.iconst 1, 1) := by decide +kernel
theorem dL_reached_16 : decode cL_reached 16 = .ok (.ireturn, 1) := by decide +kernel
theorem dL_reached_17 : decode cL_reached 17 = .ok (.iconst 0, 1) := by decide +kernel
theorem dL_reached_18 : decode cL_reached 18 = .ok (.ireturn, 1) := by decide +kernel
theorem dL_farthest_0 : decode cL_farthest 0 = .ok (.aload_n 3, 1) := by decide +kernel
theorem dL_farthest_1 : decode cL_farthest 1 = .ok (.iconst 0, 1) := by decide +kernel
theorem dL_farthest_2 : decode cL_farthest 2 = .ok (.aload_n 0, 1) := by decide +kernel
theorem dL_farthest_3 : decode cL_farthest 3 = .ok (.iload_n 1, 1) := by decide +kernel
theorem dL_farthest_4 : decode cL_farthest 4 = .ok (.iload_n 2, 1) := by decide +kernel
theorem dL_farthest_5 : decode cL_farthest 5 = .ok (.invokevirtual 65, 3) := by decide +kernel
theorem dL_farthest_8 : decode cL_farthest 8 = .ok (.i2l, 1) := by decide +kernel
theorem dL_farthest_9 : decode cL_farthest 9 = .ok (.lastore, 1) := by decide +kernel
theorem dL_farthest_10 : decode cL_farthest 10 = .ok (.goto 7, 3) := by decide +kernel
theorem dL_farthest_13 : decode cL_farthest 13 = .ok (.astore 4, 2) := by decide +kernel
theorem dL_farthest_15 : decode cL_farthest 15 = .ok (.iconst 1, 1) := by decide +kernel
theorem dL_farthest_16 : decode cL_farthest 16 = .ok (.ireturn, 1) := by decide +kernel
theorem dL_farthest_17 : decode cL_farthest 17 = .ok (.iconst 0, 1) := by decide +kernel
theorem dL_farthest_18 : decode cL_farthest 18 = .ok (.ireturn, 1) := by decide +kernel
theorem dL_gather_0 : decode cL_gather 0 = .ok (.aload_n 2, 1) := by decide +kernel
theorem dL_gather_1 : decode cL_gather 1 = .ok (.iconst 0, 1) := by decide +kernel
theorem dL_gather_2 : decode cL_gather 2 = .ok (.aload_n 0, 1) := by decide +kernel
theorem dL_gather_3 : decode cL_gather 3 = .ok (.iload_n 1, 1) := by decide +kernel
theorem dL_gather_4 : decode cL_gather 4 = .ok (.invokevirtual 68, 3) := by decide +kernel
theorem dL_gather_7 : decode cL_gather 7 = .ok (.i2l, 1) := by decide +kernel
theorem dL_gather_8 : decode cL_gather 8 = .ok (.lastore, 1) := by decide +kernel
theorem dL_gather_9 : decode cL_gather 9 = .ok (.goto 6, 3) := by decide +kernel
theorem dL_gather_12 : decode cL_gather 12 = .ok (.astore_n 3, 1) := by decide +kernel
theorem dL_gather_13 : decode cL_gather 13 = .ok (.iconst 1, 1) := by decide +kernel
theorem dL_gather_14 : decode cL_gather 14 = .ok (.ireturn, 1) := by decide +kernel
theorem dL_gather_15 : decode cL_gather 15 = .ok (.iconst 0, 1) := by decide +kernel
theorem dL_gather_16 : decode cL_gather 16 = .ok (.ireturn, 1) := by decide +kernel
theorem dL_errands_0 : decode cL_errands 0 = .ok (.aload_n 2, 1) := by decide +kernel
theorem dL_errands_1 : decode cL_errands 1 = .ok (.iconst 0, 1) := by decide +kernel
theorem dL_errands_2 : decode cL_errands 2 = .ok (.aload_n 0, 1) := by decide +kernel
theorem dL_errands_3 : decode cL_errands 3 = .ok (.iload_n 1, 1) := by decide +kernel
theorem dL_errands_4 : decode cL_errands 4 = .ok (.invokevirtual 71, 3) := by decide +kernel
theorem dL_errands_7 : decode cL_errands 7 = .ok (.i2l, 1) := by decide +kernel
theorem dL_errands_8 : decode cL_errands 8 = .ok (.lastore, 1) := by decide +kernel
theorem dL_errands_9 : decode cL_errands 9 = .ok (.goto 6, 3) := by decide +kernel
theorem dL_errands_12 : decode cL_errands 12 = .ok (.astore_n 3, 1) := by decide +kernel
theorem dL_errands_13 : decode cL_errands 13 = .ok (.iconst 1, 1) := by decide +kernel
theorem dL_errands_14 : decode cL_errands 14 = .ok (.ireturn, 1) := by decide +kernel
theorem dL_errands_15 : decode cL_errands 15 = .ok (.iconst 0, 1) := by decide +kernel
theorem dL_errands_16 : decode cL_errands 16 = .ok (.ireturn, 1) := by decide +kernel
theorem dL_errand_0 : decode cL_errand 0 = .ok (.aload_n 2, 1) := by decide +kernel
theorem dL_errand_1 : decode cL_errand 1 = .ok (.iconst 0, 1) := by decide +kernel
theorem dL_errand_2 : decode cL_errand 2 = .ok (.aload_n 0, 1) := by decide +kernel
theorem dL_errand_3 : decode cL_errand 3 = .ok (.iload_n 1, 1) := by decide +kernel
theorem dL_errand_4 : decode cL_errand 4 = .ok (.invokevirtual 74, 3) := by decide +kernel
theorem dL_errand_7 : decode cL_errand 7 = .ok (.i2l, 1) := by decide +kernel
theorem dL_errand_8 : decode cL_errand 8 = .ok (.lastore, 1) := by decide +kernel
theorem dL_errand_9 : decode cL_errand 9 = .ok (.goto 6, 3) := by decide +kernel
theorem dL_errand_12 : decode cL_errand 12 = .ok (.astore_n 3, 1) := by decide +kernel
theorem dL_errand_13 : decode cL_errand 13 = .ok (.iconst 1, 1) := by decide +kernel
theorem dL_errand_14 : decode cL_errand 14 = .ok (.ireturn, 1) := by decide +kernel
theorem dL_errand_15 : decode cL_errand 15 = .ok (.iconst 0, 1) := by decide +kernel
theorem dL_errand_16 : decode cL_errand 16 = .ok (.ireturn, 1) := by decide +kernel
theorem dL_see_0 : decode cL_see 0 = .ok (.aload 4, 2) := by decide +kernel
theorem dL_see_2 : decode cL_see 2 = .ok (.iconst 0, 1) := by decide +kernel
theorem dL_see_3 : decode cL_see 3 = .ok (.aload_n 0, 1) := by decide +kernel
theorem dL_see_4 : decode cL_see 4 = .ok (.iload_n 1, 1) := by decide +kernel
theorem dL_see_5 : decode cL_see 5 = .ok (.iload_n 2, 1) := by decide +kernel
theorem dL_see_6 : decode cL_see 6 = .ok (.iload_n 3, 1) := by decide +kernel
theorem dL_see_7 : decode cL_see 7 = .ok (.invokevirtual 77, 3) := by decide +kernel
theorem dL_see_10 : decode cL_see 10 = .ok (.i2l, 1) := by decide +kernel
theorem dL_see_11 : decode cL_see 11 = .ok (.lastore, 1) := by decide +kernel
theorem dL_see_12 : decode cL_see 12 = .ok (.goto 7, 3) := by decide +kernel
theorem dL_see_15 : decode cL_see 15 = .ok (.astore 5, 2) := by decide +kernel
theorem dL_see_17 : decode cL_see 17 = .ok (.iconst 1, 1) := by decide +kernel
theorem dL_see_18 : decode cL_see 18 = .ok (.ireturn, 1) := by decide +kernel
theorem dL_see_19 : decode cL_see 19 = .ok (.iconst 0, 1) := by decide +kernel
theorem dL_see_20 : decode cL_see 20 = .ok (.ireturn, 1) := by decide +kernel
theorem dL_quick_0 : decode cL_quick 0 = .ok (.aload_n 2, 1) := by decide +kernel
theorem dL_quick_1 : decode cL_quick 1 = .ok (.iconst 0, 1) := by decide +kernel
theorem dL_quick_2 : decode cL_quick 2 = .ok (.aload_n 0, 1) := by decide +kernel
theorem dL_quick_3 : decode cL_quick 3 = .ok (.iload_n 1, 1) := by decide +kernel
theorem dL_quick_4 : decode cL_quick 4 = .ok (.invokevirtual 80, 3) := by decide +kernel
theorem dL_quick_7 : decode cL_quick 7 = .ok (.i2l, 1) := by decide +kernel
theorem dL_quick_8 : decode cL_quick 8 = .ok (.lastore, 1) := by decide +kernel
theorem dL_quick_9 : decode cL_quick 9 = .ok (.goto 6, 3) := by decide +kernel
theorem dL_quick_12 : decode cL_quick 12 = .ok (.astore_n 3, 1) := by decide +kernel
theorem dL_quick_13 : decode cL_quick 13 = .ok (.iconst 1, 1) := by decide +kernel
theorem dL_quick_14 : decode cL_quick 14 = .ok (.ireturn, 1) := by decide +kernel
theorem dL_quick_15 : decode cL_quick 15 = .ok (.iconst 0, 1) := by decide +kernel
theorem dL_quick_16 : decode cL_quick 16 = .ok (.ireturn, 1) := by decide +kernel
theorem dL_look_0 : decode cL_look 0 = .ok (.aload_n 2, 1) := by decide +kernel
theorem dL_look_1 : decode cL_look 1 = .ok (.iconst 0, 1) := by decide +kernel
theorem dL_look_2 : decode cL_look 2 = .ok (.aload_n 0, 1) := by decide +kernel
theorem dL_look_3 : decode cL_look 3 = .ok (.iload_n 1, 1) := by decide +kernel
theorem dL_look_4 : decode cL_look 4 = .ok (.invokevirtual 83, 3) := by decide +kernel
theorem dL_look_7 : decode cL_look 7 = .ok (.i2l, 1) := by decide +kernel
theorem dL_look_8 : decode cL_look 8 = .ok (.lastore, 1) := by decide +kernel
theorem dL_look_9 : decode cL_look 9 = .ok (.goto 6, 3) := by decide +kernel
theorem dL_look_12 : decode cL_look 12 = .ok (.astore_n 3, 1) := by decide +kernel
theorem dL_look_13 : decode cL_look 13 = .ok (.iconst 1, 1) := by decide +kernel
theorem dL_look_14 : decode cL_look 14 = .ok (.ireturn, 1) := by decide +kernel
theorem dL_look_15 : decode cL_look 15 = .ok (.iconst 0, 1) := by decide +kernel
theorem dL_look_16 : decode cL_look 16 = .ok (.ireturn, 1) := by decide +kernel
theorem dL_candles_0 : decode cL_candles 0 = .ok (.aload 4, 2) := by decide +kernel
theorem dL_candles_2 : decode cL_candles 2 = .ok (.iconst 0, 1) := by decide +kernel
theorem dL_candles_3 : decode cL_candles 3 = .ok (.aload_n 0, 1) := by decide +kernel
theorem dL_candles_4 : decode cL_candles 4 = .ok (.iload_n 1, 1) := by decide +kernel
theorem dL_candles_5 : decode cL_candles 5 = .ok (.iload_n 2, 1) := by decide +kernel
theorem dL_candles_6 : decode cL_candles 6 = .ok (.iload_n 3, 1) := by decide +kernel
theorem dL_candles_7 : decode cL_candles 7 = .ok (.invokevirtual 86, 3) := by decide +kernel
theorem dL_candles_10 : decode cL_candles 10 = .ok (.i2l, 1) := by decide +kernel
theorem dL_candles_11 : decode cL_candles 11 = .ok (.lastore, 1) := by decide +kernel
theorem dL_candles_12 : decode cL_candles 12 = .ok (.goto 11, 3) := by decide +kernel
theorem dL_candles_15 : decode cL_candles 15 = .ok (.astore 5, 2) := by decide +kernel
theorem dL_candles_17 : decode cL_candles 17 = .ok (.iconst 1, 1) := by decide +kernel
theorem dL_candles_18 : decode cL_candles 18 = .ok (.ireturn, 1) := by decide +kernel
theorem dL_candles_19 : decode cL_candles 19 = .ok (.astore 5, 2) := by decide +kernel
theorem dL_candles_21 : decode cL_candles 21 = .ok (.iconst 2, 1) := by decide +kernel
theorem dL_candles_22 : decode cL_candles 22 = .ok (.ireturn, 1) := by decide +kernel
theorem dL_candles_23 : decode cL_candles 23 = .ok (.iconst 0, 1) := by decide +kernel
theorem dL_candles_24 : decode cL_candles 24 = .ok (.ireturn, 1) := by decide +kernel
theorem dL_game_0 : decode cL_game 0 = .ok (.aload 4, 2) := by decide +kernel
theorem dL_game_2 : decode cL_game 2 = .ok (.iconst 0, 1) := by decide +kernel
theorem dL_game_3 : decode cL_game 3 = .ok (.aload_n 0, 1) := by decide +kernel
theorem dL_game_4 : decode cL_game 4 = .ok (.iload_n 1, 1) := by decide +kernel
theorem dL_game_5 : decode cL_game 5 = .ok (.iload_n 2, 1) := by decide +kernel
theorem dL_game_6 : decode cL_game 6 = .ok (.iload_n 3, 1) := by decide +kernel
theorem dL_game_7 : decode cL_game 7 = .ok (.invokevirtual 89, 3) := by decide +kernel
theorem dL_game_10 : decode cL_game 10 = .ok (.i2l, 1) := by decide +kernel
theorem dL_game_11 : decode cL_game 11 = .ok (.lastore, 1) := by decide +kernel
theorem dL_game_12 : decode cL_game 12 = .ok (.goto 11, 3) := by decide +kernel
theorem dL_game_15 : decode cL_game 15 = .ok (.astore 5, 2) := by decide +kernel
theorem dL_game_17 : decode cL_game 17 = .ok (.iconst 1, 1) := by decide +kernel
theorem dL_game_18 : decode cL_game 18 = .ok (.ireturn, 1) := by decide +kernel
theorem dL_game_19 : decode cL_game 19 = .ok (.astore 5, 2) := by decide +kernel
theorem dL_game_21 : decode cL_game 21 = .ok (.iconst 2, 1) := by decide +kernel
theorem dL_game_22 : decode cL_game 22 = .ok (.ireturn, 1) := by decide +kernel
theorem dL_game_23 : decode cL_game 23 = .ok (.iconst 0, 1) := by decide +kernel
theorem dL_game_24 : decode cL_game 24 = .ok (.ireturn, 1) := by decide +kernel
theorem dL_years_0 : decode cL_years 0 = .ok (.aload 4, 2) := by decide +kernel
theorem dL_years_2 : decode cL_years 2 = .ok (.iconst 0, 1) := by decide +kernel
theorem dL_years_3 : decode cL_years 3 = .ok (.aload_n 0, 1) := by decide +kernel
theorem dL_years_4 : decode cL_years 4 = .ok (.iload_n 1, 1) := by decide +kernel
theorem dL_years_5 : decode cL_years 5 = .ok (.iload_n 2, 1) := by decide +kernel
theorem dL_years_6 : decode cL_years 6 = .ok (.iload_n 3, 1) := by decide +kernel
theorem dL_years_7 : decode cL_years 7 = .ok (.invokevirtual 92, 3) := by decide +kernel
theorem dL_years_10 : decode cL_years 10 = .ok (.i2l, 1) := by decide +kernel
theorem dL_years_11 : decode cL_years 11 = .ok (.lastore, 1) := by decide +kernel
theorem dL_years_12 : decode cL_years 12 = .ok (.goto 11, 3) := by decide +kernel
theorem dL_years_15 : decode cL_years 15 = .ok (.astore 5, 2) := by decide +kernel
theorem dL_years_17 : decode cL_years 17 = .ok (.iconst 1, 1) := by decide +kernel
theorem dL_years_18 : decode cL_years 18 = .ok (.ireturn, 1) := by decide +kernel
theorem dL_years_19 : decode cL_years 19 = .ok (.astore 5, 2) := by decide +kernel
theorem dL_years_21 : decode cL_years 21 = .ok (.iconst 2, 1) := by decide +kernel
theorem dL_years_22 : decode cL_years 22 = .ok (.ireturn, 1) := by decide +kernel
theorem dL_years_23 : decode cL_years 23 = .ok (.iconst 0, 1) := by decide +kernel
theorem dL_years_24 : decode cL_years 24 = .ok (.ireturn, 1) := by decide +kernel
theorem dL_ahead_0 : decode cL_ahead 0 = .ok (.aload_n 3, 1) := by decide +kernel
theorem dL_ahead_1 : decode cL_ahead 1 = .ok (.iconst 0, 1) := by decide +kernel
theorem dL_ahead_2 : decode cL_ahead 2 = .ok (.aload_n 0, 1) := by decide +kernel
theorem dL_ahead_3 : decode cL_ahead 3 = .ok (.iload_n 1, 1) := by decide +kernel
theorem dL_ahead_4 : decode cL_ahead 4 = .ok (.iload_n 2, 1) := by decide +kernel
theorem dL_ahead_5 : decode cL_ahead 5 = .ok (.invokevirtual 95, 3) := by decide +kernel
theorem dL_ahead_8 : decode cL_ahead 8 = .ok (.i2l, 1) := by decide +kernel
theorem dL_ahead_9 : decode cL_ahead 9 = .ok (.lastore, 1) := by decide +kernel
theorem dL_ahead_10 : decode cL_ahead 10 = .ok (.goto 11, 3) := by decide +kernel
theorem dL_ahead_13 : decode cL_ahead 13 = .ok (.astore 4, 2) := by decide +kernel
theorem dL_ahead_15 : decode cL_ahead 15 = .ok (.iconst 1, 1) := by decide +kernel
theorem dL_ahead_16 : decode cL_ahead 16 = .ok (.ireturn, 1) := by decide +kernel
theorem dL_ahead_17 : decode cL_ahead 17 = .ok (.astore 4, 2) := by decide +kernel
theorem dL_ahead_19 : decode cL_ahead 19 = .ok (.iconst 2, 1) := by decide +kernel
theorem dL_ahead_20 : decode cL_ahead 20 = .ok (.ireturn, 1) := by decide +kernel
theorem dL_ahead_21 : decode cL_ahead 21 = .ok (.iconst 0, 1) := by decide +kernel
theorem dL_ahead_22 : decode cL_ahead 22 = .ok (.ireturn, 1) := by decide +kernel
theorem dL_ways_0 : decode cL_ways 0 = .ok (.aload_n 3, 1) := by decide +kernel
theorem dL_ways_1 : decode cL_ways 1 = .ok (.iconst 0, 1) := by decide +kernel
theorem dL_ways_2 : decode cL_ways 2 = .ok (.aload_n 0, 1) := by decide +kernel
theorem dL_ways_3 : decode cL_ways 3 = .ok (.iload_n 1, 1) := by decide +kernel
theorem dL_ways_4 : decode cL_ways 4 = .ok (.iload_n 2, 1) := by decide +kernel
theorem dL_ways_5 : decode cL_ways 5 = .ok (.invokevirtual 98, 3) := by decide +kernel
theorem dL_ways_8 : decode cL_ways 8 = .ok (.i2l, 1) := by decide +kernel
theorem dL_ways_9 : decode cL_ways 9 = .ok (.lastore, 1) := by decide +kernel
theorem dL_ways_10 : decode cL_ways 10 = .ok (.goto 7, 3) := by decide +kernel
theorem dL_ways_13 : decode cL_ways 13 = .ok (.astore 4, 2) := by decide +kernel
theorem dL_ways_15 : decode cL_ways 15 = .ok (.iconst 1, 1) := by decide +kernel
theorem dL_ways_16 : decode cL_ways 16 = .ok (.ireturn, 1) := by decide +kernel
theorem dL_ways_17 : decode cL_ways 17 = .ok (.iconst 0, 1) := by decide +kernel
theorem dL_ways_18 : decode cL_ways 18 = .ok (.ireturn, 1) := by decide +kernel
theorem dL_near_0 : decode cL_near 0 = .ok (.aload_n 2, 1) := by decide +kernel
theorem dL_near_1 : decode cL_near 1 = .ok (.iconst 0, 1) := by decide +kernel
theorem dL_near_2 : decode cL_near 2 = .ok (.aload_n 0, 1) := by decide +kernel
theorem dL_near_3 : decode cL_near 3 = .ok (.iload_n 1, 1) := by decide +kernel
theorem dL_near_4 : decode cL_near 4 = .ok (.invokevirtual 101, 3) := by decide +kernel
theorem dL_near_7 : decode cL_near 7 = .ok (.i2l, 1) := by decide +kernel
theorem dL_near_8 : decode cL_near 8 = .ok (.lastore, 1) := by decide +kernel
theorem dL_near_9 : decode cL_near 9 = .ok (.goto 6, 3) := by decide +kernel
theorem dL_near_12 : decode cL_near 12 = .ok (.astore_n 3, 1) := by decide +kernel
theorem dL_near_13 : decode cL_near 13 = .ok (.iconst 1, 1) := by decide +kernel
theorem dL_near_14 : decode cL_near 14 = .ok (.ireturn, 1) := by decide +kernel
theorem dL_near_15 : decode cL_near 15 = .ok (.iconst 0, 1) := by decide +kernel
theorem dL_near_16 : decode cL_near 16 = .ok (.ireturn, 1) := by decide +kernel
theorem dL_gone_0 : decode cL_gone 0 = .ok (.aload_n 3, 1) := by decide +kernel
theorem dL_gone_1 : decode cL_gone 1 = .ok (.iconst 0, 1) := by decide +kernel
theorem dL_gone_2 : decode cL_gone 2 = .ok (.aload_n 0, 1) := by decide +kernel
theorem dL_gone_3 : decode cL_gone 3 = .ok (.iload_n 1, 1) := by decide +kernel
theorem dL_gone_4 : decode cL_gone 4 = .ok (.iload_n 2, 1) := by decide +kernel
theorem dL_gone_5 : decode cL_gone 5 = .ok (.invokevirtual 104, 3) := by decide +kernel
theorem dL_gone_8 : decode cL_gone 8 = .ok (.i2l, 1) := by decide +kernel
theorem dL_gone_9 : decode cL_gone 9 = .ok (.lastore, 1) := by decide +kernel
theorem dL_gone_10 : decode cL_gone 10 = .ok (.goto 11, 3) := by decide +kernel
theorem dL_gone_13 : decode cL_gone 13 = .ok (.astore 4, 2) := by decide +kernel
theorem dL_gone_15 : decode cL_gone 15 = .ok (.iconst 1, 1) := by decide +kernel
theorem dL_gone_16 : decode cL_gone 16 = .ok (.ireturn, 1) := by decide +kernel
theorem dL_gone_17 : decode cL_gone 17 = .ok (.astore 4, 2) := by decide +kernel
theorem dL_gone_19 : decode cL_gone 19 = .ok (.iconst 2, 1) := by decide +kernel
theorem dL_gone_20 : decode cL_gone 20 = .ok (.ireturn, 1) := by decide +kernel
theorem dL_gone_21 : decode cL_gone 21 = .ok (.iconst 0, 1) := by decide +kernel
theorem dL_gone_22 : decode cL_gone 22 = .ok (.ireturn, 1) := by decide +kernel
