theorem dX0_init_0 : decode cX0_init 0 = .ok (.aload_n 0, 1) := by decide +kernel
theorem dX0_init_1 : decode cX0_init 1 = .ok (.invokespecial 3, 3) := by decide +kernel
theorem dX0_init_4 : decode cX0_init 4 = .ok (.aload_n 0, 1) := by decide +kernel
theorem dX0_init_5 : decode cX0_init 5 = .ok (.iconst 0, 1) := by decide +kernel
theorem dX0_init_6 : decode cX0_init 6 = .ok (.putfield 9, 3) := by decide +kernel
theorem dX0_init_9 : decode cX0_init 9 = .ok (.aload_n 0, 1) := by decide +kernel
theorem dX0_init_10 : decode cX0_init 10 = .ok (.iconst 0, 1) := by decide +kernel
theorem dX0_init_11 : decode cX0_init 11 = .ok (.putfield 15, 3) := by decide +kernel
theorem dX0_init_14 : decode cX0_init 14 = .ok (.aload_n 0, 1) := by decide +kernel
theorem dX0_init_15 : decode cX0_init 15 = .ok (.bipush 40, 2) := by decide +kernel
theorem dX0_init_17 : decode cX0_init 17 = .ok (.anewarray 18, 3) := by decide +kernel
theorem dX0_init_20 : decode cX0_init 20 = .ok (.putfield 20, 3) := by decide +kernel
theorem dX0_init_23 : decode cX0_init 23 = .ok (.iconst 0, 1) := by decide +kernel
theorem dX0_init_24 : decode cX0_init 24 = .ok (.istore_n 1, 1) := by decide +kernel
theorem dX0_init_25 : decode cX0_init 25 = .ok (.iload_n 1, 1) := by decide +kernel
theorem dX0_init_26 : decode cX0_init 26 = .ok (.bipush 40, 2) := by decide +kernel
theorem dX0_init_28 : decode cX0_init 28 = .ok (.if_icmp .ge 22, 3) := by decide +kernel
theorem dX0_init_31 : decode cX0_init 31 = .ok (.aload_n 0, 1) := by decide +kernel
theorem dX0_init_32 : decode cX0_init 32 = .ok (.getfield 20, 3) := by decide +kernel
theorem dX0_init_35 : decode cX0_init 35 = .ok (.iload_n 1, 1) := by decide +kernel
theorem dX0_init_36 : decode cX0_init 36 = .ok (.new 18, 3) := by decide +kernel
theorem dX0_init_39 : decode cX0_init 39 = .ok (.dup, 1) := by decide +kernel
theorem dX0_init_40 : decode cX0_init 40 = .ok (.invokespecial 24, 3) := by decide +kernel
theorem dX0_init_43 : decode cX0_init 43 = .ok (.aastore, 1) := by decide +kernel
theorem dX0_init_44 : decode cX0_init 44 = .ok (.iinc 1 1, 3) := by decide +kernel
theorem dX0_init_47 : decode cX0_init 47 = .ok (.goto (-22), 3) := by decide +kernel
theorem dX0_init_50 : decode cX0_init 50 = .ok (.return_, 1) := by decide +kernel
theorem dX0_drop_0 : decode cX0_drop 0 = .ok (.aload_n 0, 1) := by decide +kernel
theorem dX0_drop_1 : decode cX0_drop 1 = .ok (.iconst 0, 1) := by decide +kernel
theorem dX0_drop_2 : decode cX0_drop 2 = .ok (.putfield 9, 3) := by decide +kernel
theorem dX0_drop_5 : decode cX0_drop 5 = .ok (.aload_n 0, 1) := by decide +kernel
theorem dX0_drop_6 : decode cX0_drop 6 = .ok (.iconst 0, 1) := by decide +kernel
theorem dX0_drop_7 : decode cX0_drop 7 = .ok (.putfield 15, 3) := by decide +kernel
theorem dX0_drop_10 : decode cX0_drop 10 = .ok (.return_, 1) := by decide +kernel
theorem dX0_keep_0 : decode cX0_keep 0 = .ok (.aload_n 0, 1) := by decide +kernel
theorem dX0_keep_1 : decode cX0_keep 1 = .ok (.getfield 9, 3) := by decide +kernel
theorem dX0_keep_4 : decode cX0_keep 4 = .ok (.bipush 40, 2) := by decide +kernel
theorem dX0_keep_6 : decode cX0_keep 6 = .ok (.if_icmp .ne 26, 3) := by decide +kernel
theorem dX0_keep_9 : decode cX0_keep 9 = .ok (.aload_n 0, 1) := by decide +kernel
theorem dX0_keep_10 : decode cX0_keep 10 = .ok (.aload_n 0, 1) := by decide +kernel
theorem dX0_keep_11 : decode cX0_keep 11 = .ok (.getfield 15, 3) := by decide +kernel
theorem dX0_keep_14 : decode cX0_keep 14 = .ok (.iconst 1, 1) := by decide +kernel
theorem dX0_keep_15 : decode cX0_keep 15 = .ok (.iadd, 1) := by decide +kernel
theorem dX0_keep_16 : decode cX0_keep 16 = .ok (.bipush 40, 2) := by decide +kernel
theorem dX0_keep_18 : decode cX0_keep 18 = .ok (.irem, 1) := by decide +kernel
theorem dX0_keep_19 : decode cX0_keep 19 = .ok (.putfield 15, 3) := by decide +kernel
theorem dX0_keep_22 : decode cX0_keep 22 = .ok (.aload_n 0, 1) := by decide +kernel
theorem dX0_keep_23 : decode cX0_keep 23 = .ok (.dup, 1) := by decide +kernel
theorem dX0_keep_24 : decode cX0_keep 24 = .ok (.getfield 9, 3) := by decide +kernel
theorem dX0_keep_27 : decode cX0_keep 27 = .ok (.iconst 1, 1) := by decide +kernel
theorem dX0_keep_28 : decode cX0_keep 28 = .ok (.isub, 1) := by decide +kernel
theorem dX0_keep_29 : decode cX0_keep 29 = .ok (.putfield 9, 3) := by decide +kernel
theorem dX0_keep_32 : decode cX0_keep 32 = .ok (.aload_n 0, 1) := by decide +kernel
theorem dX0_keep_33 : decode cX0_keep 33 = .ok (.getfield 20, 3) := by decide +kernel
theorem dX0_keep_36 : decode cX0_keep 36 = .ok (.aload_n 0, 1) := by decide +kernel
theorem dX0_keep_37 : decode cX0_keep 37 = .ok (.getfield 15, 3) := by decide +kernel
theorem dX0_keep_40 : decode cX0_keep 40 = .ok (.aload_n 0, 1) := by decide +kernel
theorem dX0_keep_41 : decode cX0_keep 41 = .ok (.getfield 9, 3) := by decide +kernel
theorem dX0_keep_44 : decode cX0_keep 44 = .ok (.iadd, 1) := by decide +kernel
theorem dX0_keep_45 : decode cX0_keep 45 = .ok (.bipush 40, 2) := by decide +kernel
theorem dX0_keep_47 : decode cX0_keep 47 = .ok (.irem, 1) := by decide +kernel
theorem dX0_keep_48 : decode cX0_keep 48 = .ok (.aaload, 1) := by decide +kernel
theorem dX0_keep_49 : decode cX0_keep 49 = .ok (.aload_n 1, 1) := by decide +kernel
theorem dX0_keep_50 : decode cX0_keep 50 = .ok (.invokevirtual 25, 3) := by decide +kernel
theorem dX0_keep_53 : decode cX0_keep 53 = .ok (.aload_n 0, 1) := by decide +kernel
theorem dX0_keep_54 : decode cX0_keep 54 = .ok (.dup, 1) := by decide +kernel
theorem dX0_keep_55 : decode cX0_keep 55 = .ok (.getfield 9, 3) := by decide +kernel
theorem dX0_keep_58 : decode cX0_keep 58 = .ok (.iconst 1, 1) := by decide +kernel
theorem dX0_keep_59 : decode cX0_keep 59 = .ok (.iadd, 1) := by decide +kernel
theorem dX0_keep_60 : decode cX0_keep 60 = .ok (.putfield 9, 3) := by decide +kernel
theorem dX0_keep_63 : decode cX0_keep 63 = .ok (.return_, 1) := by decide +kernel
theorem dX0_takeBack_0 : decode cX0_takeBack 0 = .ok (.aload_n 0, 1) := by decide +kernel
theorem dX0_takeBack_1 : decode cX0_takeBack 1 = .ok (.getfield 9, 3) := by decide +kernel
theorem dX0_takeBack_4 : decode cX0_takeBack 4 = .ok (.ifCond .ne 5, 3) := by decide +kernel
theorem dX0_takeBack_7 : decode cX0_takeBack 7 = .ok (.iconst 0, 1) := by decide +kernel
theorem dX0_takeBack_8 : decode cX0_takeBack 8 = .ok (.ireturn, 1) := by decide +kernel
theorem dX0_takeBack_9 : decode cX0_takeBack 9 = .ok (.aload_n 0, 1) := by decide +kernel
theorem dX0_takeBack_10 : decode cX0_takeBack 10 = .ok (.dup, 1) := by decide +kernel
theorem dX0_takeBack_11 : decode cX0_takeBack 11 = .ok (.getfield 9, 3) := by decide +kernel
theorem dX0_takeBack_14 : decode cX0_takeBack 14 = .ok (.iconst 1, 1) := by decide +kernel
theorem dX0_takeBack_15 : decode cX0_takeBack 15 = .ok (.isub, 1) := by decide +kernel
theorem dX0_takeBack_16 : decode cX0_takeBack 16 = .ok (.putfield 9, 3) := by decide +kernel
theorem dX0_takeBack_19 : decode cX0_takeBack 19 = .ok (.aload_n 1, 1) := by decide +kernel
theorem dX0_takeBack_20 : decode cX0_takeBack 20 = .ok (.aload_n 0, 1) := by decide +kernel
theorem dX0_takeBack_21 : decode cX0_takeBack 21 = .ok (.getfield 20, 3) := by decide +kernel
theorem dX0_takeBack_24 : decode cX0_takeBack 24 = .ok (.aload_n 0, 1) := by decide +kernel
theorem dX0_takeBack_25 : decode cX0_takeBack 25 = .ok (.getfield 15, 3) := by decide +kernel
theorem dX0_takeBack_28 : decode cX0_takeBack 28 = .ok (.aload_n 0, 1) := by decide +kernel
theorem dX0_takeBack_29 : decode cX0_takeBack 29 = .ok (.getfield 9, 3) := by decide +kernel
theorem dX0_takeBack_32 : decode cX0_takeBack 32 = .ok (.iadd, 1) := by decide +kernel
theorem dX0_takeBack_33 : decode cX0_takeBack 33 = .ok (.bipush 40, 2) := by decide +kernel
theorem dX0_takeBack_35 : decode cX0_takeBack 35 = .ok (.irem, 1) := by decide +kernel
theorem dX0_takeBack_36 : decode cX0_takeBack 36 = .ok (.aaload, 1) := by decide +kernel
theorem dX0_takeBack_37 : decode cX0_takeBack 37 = .ok (.invokevirtual 25, 3) := by decide +kernel
theorem dX0_takeBack_40 : decode cX0_takeBack 40 = .ok (.iconst 1, 1) := by decide +kernel
theorem dX0_takeBack_41 : decode cX0_takeBack 41 = .ok (.ireturn, 1) := by decide +kernel
theorem dX0_copyFrom_0 : decode cX0_copyFrom 0 = .ok (.aload_n 0, 1) := by decide +kernel
theorem dX0_copyFrom_1 : decode cX0_copyFrom 1 = .ok (.aload_n 1, 1) := by decide +kernel
theorem dX0_copyFrom_2 : decode cX0_copyFrom 2 = .ok (.getfield 9, 3) := by decide +kernel
theorem dX0_copyFrom_5 : decode cX0_copyFrom 5 = .ok (.putfield 9, 3) := by decide +kernel
theorem dX0_copyFrom_8 : decode cX0_copyFrom 8 = .ok (.aload_n 0, 1) := by decide +kernel
theorem dX0_copyFrom_9 : decode cX0_copyFrom 9 = .ok (.iconst 0, 1) := by decide +kernel
theorem dX0_copyFrom_10 : decode cX0_copyFrom 10 = .ok (.putfield 15, 3) := by decide +kernel
theorem dX0_copyFrom_13 : decode cX0_copyFrom 13 = .ok (.iconst 0, 1) := by decide +kernel
theorem dX0_copyFrom_14 : decode cX0_copyFrom 14 = .ok (.istore_n 2, 1) := by decide +kernel
theorem dX0_copyFrom_15 : decode cX0_copyFrom 15 = .ok (.iload_n 2, 1) := by decide +kernel
theorem dX0_copyFrom_16 : decode cX0_copyFrom 16 = .ok (.aload_n 0, 1) := by decide +kernel
theorem dX0_copyFrom_17 : decode cX0_copyFrom 17 = .ok (.getfield 9, 3) := by decide +kernel
theorem dX0_copyFrom_20 : decode cX0_copyFrom 20 = .ok (.if_icmp .ge 32, 3) := by decide +kernel
theorem dX0_copyFrom_23 : decode cX0_copyFrom 23 = .ok (.aload_n 0, 1) := by decide +kernel
theorem dX0_copyFrom_24 : decode cX0_copyFrom 24 = .ok (.getfield 20, 3) := by decide +kernel
theorem dX0_copyFrom_27 : decode cX0_copyFrom 27 = .ok (.iload_n 2, 1) := by decide +kernel
theorem dX0_copyFrom_28 : decode cX0_copyFrom 28 = .ok (.aaload, 1) := by decide +kernel
theorem dX0_copyFrom_29 : decode cX0_copyFrom 29 = .ok (.aload_n 1, 1) := by decide +kernel
theorem dX0_copyFrom_30 : decode cX0_copyFrom 30 = .ok (.getfield 20, 3) := by decide +kernel
theorem dX0_copyFrom_33 : decode cX0_copyFrom 33 = .ok (.aload_n 1, 1) := by decide +kernel
theorem dX0_copyFrom_34 : decode cX0_copyFrom 34 = .ok (.getfield 15, 3) := by decide +kernel
theorem dX0_copyFrom_37 : decode cX0_copyFrom 37 = .ok (.iload_n 2, 1) := by decide +kernel
theorem dX0_copyFrom_38 : decode cX0_copyFrom 38 = .ok (.iadd, 1) := by decide +kernel
theorem dX0_copyFrom_39 : decode cX0_copyFrom 39 = .ok (.bipush 40, 2) := by decide +kernel
theorem dX0_copyFrom_41 : decode cX0_copyFrom 41 = .ok (.irem, 1) := by decide +kernel
theorem dX0_copyFrom_42 : decode cX0_copyFrom 42 = .ok (.aaload, 1) := by decide +kernel
theorem dX0_copyFrom_43 : decode cX0_copyFrom 43 = .ok (.invokevirtual 25, 3) := by decide +kernel
theorem dX0_copyFrom_46 : decode cX0_copyFrom 46 = .ok (.iinc 2 1, 3) := by decide +kernel
theorem dX0_copyFrom_49 : decode cX0_copyFrom 49 = .ok (.goto (-34), 3) := by decide +kernel
theorem dX0_copyFrom_52 : decode cX0_copyFrom 52 = .ok (.return_, 1) := by decide +kernel
theorem dX1_init_0 : decode cX1_init 0 = .ok (.aload_n 0, 1) := by decide +kernel
theorem dX1_init_1 : decode cX1_init 1 = .ok (.invokespecial 3, 3) := by decide +kernel
theorem dX1_init_4 : decode cX1_init 4 = .ok (.aload_n 0, 1) := by decide +kernel
theorem dX1_init_5 : decode cX1_init 5 = .ok (.iconst 0, 1) := by decide +kernel
theorem dX1_init_6 : decode cX1_init 6 = .ok (.putfield 9, 3) := by decide +kernel
theorem dX1_init_9 : decode cX1_init 9 = .ok (.aload_n 0, 1) := by decide +kernel
theorem dX1_init_10 : decode cX1_init 10 = .ok (.iconst 0, 1) := by decide +kernel
theorem dX1_init_11 : decode cX1_init 11 = .ok (.putfield 15, 3) := by decide +kernel
theorem dX1_init_14 : decode cX1_init 14 = .ok (.aload_n 0, 1) := by decide +kernel
theorem dX1_init_15 : decode cX1_init 15 = .ok (.lconst 0, 1) := by decide +kernel
theorem dX1_init_16 : decode cX1_init 16 = .ok (.putfield 18, 3) := by decide +kernel
theorem dX1_init_19 : decode cX1_init 19 = .ok (.aload_n 0, 1) := by decide +kernel
theorem dX1_init_20 : decode cX1_init 20 = .ok (.bipush 6, 2) := by decide +kernel
theorem dX1_init_22 : decode cX1_init 22 = .ok (.newarray .int, 2) := by decide +kernel
theorem dX1_init_24 : decode cX1_init 24 = .ok (.putfield 22, 3) := by decide +kernel
theorem dX1_init_27 : decode cX1_init 27 = .ok (.aload_n 0, 1) := by decide +kernel
theorem dX1_init_28 : decode cX1_init 28 = .ok (.bipush 6, 2) := by decide +kernel
theorem dX1_init_30 : decode cX1_init 30 = .ok (.newarray .int, 2) := by decide +kernel
theorem dX1_init_32 : decode cX1_init 32 = .ok (.putfield 26, 3) := by decide +kernel
theorem dX1_init_35 : decode cX1_init 35 = .ok (.aload_n 0, 1) := by decide +kernel
theorem dX1_init_36 : decode cX1_init 36 = .ok (.new 29, 3) := by decide +kernel
theorem dX1_init_39 : decode cX1_init 39 = .ok (.dup, 1) := by decide +kernel
theorem dX1_init_40 : decode cX1_init 40 = .ok (.invokespecial 31, 3) := by decide +kernel
theorem dX1_init_43 : decode cX1_init 43 = .ok (.putfield 32, 3) := by decide +kernel
theorem dX1_init_46 : decode cX1_init 46 = .ok (.aload_n 0, 1) := by decide +kernel
theorem dX1_init_47 : decode cX1_init 47 = .ok (.new 29, 3) := by decide +kernel
theorem dX1_init_50 : decode cX1_init 50 = .ok (.dup, 1) := by decide +kernel
theorem dX1_init_51 : decode cX1_init 51 = .ok (.invokespecial 31, 3) := by decide +kernel
theorem dX1_init_54 : decode cX1_init 54 = .ok (.putfield 36, 3) := by decide +kernel
theorem dX1_init_57 : decode cX1_init 57 = .ok (.aload_n 0, 1) := by decide +kernel
theorem dX1_init_58 : decode cX1_init 58 = .ok (.new 39, 3) := by decide +kernel
theorem dX1_init_61 : decode cX1_init 61 = .ok (.dup, 1) := by decide +kernel
theorem dX1_init_62 : decode cX1_init 62 = .ok (.invokespecial 41, 3) := by decide +kernel
theorem dX1_init_65 : decode cX1_init 65 = .ok (.putfield 42, 3) := by decide +kernel
theorem dX1_init_68 : decode cX1_init 68 = .ok (.return_, 1) := by decide +kernel
theorem dX1_empty_0 : decode cX1_empty 0 = .ok (.aload_n 0, 1) := by decide +kernel
theorem dX1_empty_1 : decode cX1_empty 1 = .ok (.iconst 0, 1) := by decide +kernel
theorem dX1_empty_2 : decode cX1_empty 2 = .ok (.putfield 9, 3) := by decide +kernel
theorem dX1_empty_5 : decode cX1_empty 5 = .ok (.aload_n 0, 1) := by decide +kernel
theorem dX1_empty_6 : decode cX1_empty 6 = .ok (.iconst 0, 1) := by decide +kernel
theorem dX1_empty_7 : decode cX1_empty 7 = .ok (.putfield 15, 3) := by decide +kernel
theorem dX1_empty_10 : decode cX1_empty 10 = .ok (.aload_n 0, 1) := by decide +kernel
theorem dX1_empty_11 : decode cX1_empty 11 = .ok (.lconst 0, 1) := by decide +kernel
theorem dX1_empty_12 : decode cX1_empty 12 = .ok (.putfield 18, 3) := by decide +kernel
theorem dX1_empty_15 : decode cX1_empty 15 = .ok (.iconst 0, 1) := by decide +kernel
theorem dX1_empty_16 : decode cX1_empty 16 = .ok (.istore_n 1, 1) := by decide +kernel
theorem dX1_empty_17 : decode cX1_empty 17 = .ok (.iload_n 1, 1) := by decide +kernel
theorem dX1_empty_18 : decode cX1_empty 18 = .ok (.bipush 6, 2) := by decide +kernel
theorem dX1_empty_20 : decode cX1_empty 20 = .ok (.if_icmp .ge 16, 3) := by decide +kernel
theorem dX1_empty_23 : decode cX1_empty 23 = .ok (.aload_n 0, 1) := by decide +kernel
theorem dX1_empty_24 : decode cX1_empty 24 = .ok (.getfield 22, 3) := by decide +kernel
theorem dX1_empty_27 : decode cX1_empty 27 = .ok (.iload_n 1, 1) := by decide +kernel
theorem dX1_empty_28 : decode cX1_empty 28 = .ok (.iconst 0, 1) := by decide +kernel
theorem dX1_empty_29 : decode cX1_empty 29 = .ok (.iastore, 1) := by decide +kernel
theorem dX1_empty_30 : decode cX1_empty 30 = .ok (.iinc 1 1, 3) := by decide +kernel
theorem dX1_empty_33 : decode cX1_empty 33 = .ok (.goto (-16), 3) := by decide +kernel
theorem dX1_empty_36 : decode cX1_empty 36 = .ok (.aload_n 0, 1) := by decide +kernel
theorem dX1_empty_37 : decode cX1_empty 37 = .ok (.getfield 32, 3) := by decide +kernel
theorem dX1_empty_40 : decode cX1_empty 40 = .ok (.iconst 0, 1) := by decide +kernel
theorem dX1_empty_41 : decode cX1_empty 41 = .ok (.putfield 46, 3) := by decide +kernel
theorem dX1_empty_44 : decode cX1_empty 44 = .ok (.aload_n 0, 1) := by decide +kernel
theorem dX1_empty_45 : decode cX1_empty 45 = .ok (.getfield 36, 3) := by decide +kernel
theorem dX1_empty_48 : decode cX1_empty 48 = .ok (.iconst 0, 1) := by decide +kernel
theorem dX1_empty_49 : decode cX1_empty 49 = .ok (.putfield 46, 3) := by decide +kernel
theorem dX1_empty_52 : decode cX1_empty 52 = .ok (.aload_n 0, 1) := by decide +kernel
theorem dX1_empty_53 : decode cX1_empty 53 = .ok (.getfield 42, 3) := by decide +kernel
theorem dX1_empty_56 : decode cX1_empty 56 = .ok (.invokevirtual 49, 3) := by decide +kernel
theorem dX1_empty_59 : decode cX1_empty 59 = .ok (.return_, 1) := by decide +kernel
theorem dX1_has_0 : decode cX1_has 0 = .ok (.iload_n 1, 1) := by decide +kernel
theorem dX1_has_1 : decode cX1_has 1 = .ok (.ifCond .lt 27, 3) := by decide +kernel
theorem dX1_has_4 : decode cX1_has 4 = .ok (.iload_n 1, 1) := by decide +kernel
theorem dX1_has_5 : decode cX1_has 5 = .ok (.bipush 48, 2) := by decide +kernel
theorem dX1_has_7 : decode cX1_has 7 = .ok (.if_icmp .ge 21, 3) := by decide +kernel
theorem dX1_has_10 : decode cX1_has 10 = .ok (.aload_n 0, 1) := by decide +kernel
theorem dX1_has_11 : decode cX1_has 11 = .ok (.getfield 18, 3) := by decide +kernel
theorem dX1_has_14 : decode cX1_has 14 = .ok (.iload_n 1, 1) := by decide +kernel
theorem dX1_has_15 : decode cX1_has 15 = .ok (.invokestatic 52, 3) := by decide +kernel
theorem dX1_has_18 : decode cX1_has 18 = .ok (.land, 1) := by decide +kernel
theorem dX1_has_19 : decode cX1_has 19 = .ok (.lconst 0, 1) := by decide +kernel
theorem dX1_has_20 : decode cX1_has 20 = .ok (.lcmp, 1) := by decide +kernel
theorem dX1_has_21 : decode cX1_has 21 = .ok (.ifCond .eq 7, 3) := by decide +kernel
theorem dX1_has_24 : decode cX1_has 24 = .ok (.iconst 1, 1) := by decide +kernel
theorem dX1_has_25 : decode cX1_has 25 = .ok (.goto 4, 3) := by decide +kernel
theorem dX1_has_28 : decode cX1_has 28 = .ok (.iconst 0, 1) := by decide +kernel
theorem dX1_has_29 : decode cX1_has 29 = .ok (.ireturn, 1) := by decide +kernel
theorem dX1_addPlace_0 : decode cX1_addPlace 0 = .ok (.bipush 8, 2) := by decide +kernel
theorem dX1_addPlace_2 : decode cX1_addPlace 2 = .ok (.iload_n 1, 1) := by decide +kernel
theorem dX1_addPlace_3 : decode cX1_addPlace 3 = .ok (.imul, 1) := by decide +kernel
theorem dX1_addPlace_4 : decode cX1_addPlace 4 = .ok (.aload_n 0, 1) := by decide +kernel
theorem dX1_addPlace_5 : decode cX1_addPlace 5 = .ok (.getfield 22, 3) := by decide +kernel
theorem dX1_addPlace_8 : decode cX1_addPlace 8 = .ok (.iload_n 1, 1) := by decide +kernel
theorem dX1_addPlace_9 : decode cX1_addPlace 9 = .ok (.iaload, 1) := by decide +kernel
theorem dX1_addPlace_10 : decode cX1_addPlace 10 = .ok (.iadd, 1) := by decide +kernel
theorem dX1_addPlace_11 : decode cX1_addPlace 11 = .ok (.istore_n 3, 1) := by decide +kernel
theorem dX1_addPlace_12 : decode cX1_addPlace 12 = .ok (.aload_n 0, 1) := by decide +kernel
theorem dX1_addPlace_13 : decode cX1_addPlace 13 = .ok (.getfield 22, 3) := by decide +kernel
theorem dX1_addPlace_16 : decode cX1_addPlace 16 = .ok (.iload_n 1, 1) := by decide +kernel
theorem dX1_addPlace_17 : decode cX1_addPlace 17 = .ok (.dup2, 1) := by decide +kernel
theorem dX1_addPlace_18 : decode cX1_addPlace 18 = .ok (.iaload, 1) := by decide +kernel
theorem dX1_addPlace_19 : decode cX1_addPlace 19 = .ok (.iconst 1, 1) := by decide +kernel
theorem dX1_addPlace_20 : decode cX1_addPlace 20 = .ok (.iadd, 1) := by decide +kernel
theorem dX1_addPlace_21 : decode cX1_addPlace 21 = .ok (.iastore, 1) := by decide +kernel
theorem dX1_addPlace_22 : decode cX1_addPlace 22 = .ok (.aload_n 0, 1) := by decide +kernel
theorem dX1_addPlace_23 : decode cX1_addPlace 23 = .ok (.dup, 1) := by decide +kernel
theorem dX1_addPlace_24 : decode cX1_addPlace 24 = .ok (.getfield 18, 3) := by decide +kernel
theorem dX1_addPlace_27 : decode cX1_addPlace 27 = .ok (.iload_n 3, 1) := by decide +kernel
theorem dX1_addPlace_28 : decode cX1_addPlace 28 = .ok (.invokestatic 52, 3) := by decide +kernel
theorem dX1_addPlace_31 : decode cX1_addPlace 31 = .ok (.lor, 1) := by decide +kernel
theorem dX1_addPlace_32 : decode cX1_addPlace 32 = .ok (.putfield 18, 3) := by decide +kernel
theorem dX1_addPlace_35 : decode cX1_addPlace 35 = .ok (.aload_n 0, 1) := by decide +kernel
theorem dX1_addPlace_36 : decode cX1_addPlace 36 = .ok (.getfield 42, 3) := by decide +kernel
theorem dX1_addPlace_39 : decode cX1_addPlace 39 = .ok (.iload_n 3, 1) := by decide +kernel
theorem dX1_addPlace_40 : decode cX1_addPlace 40 = .ok (.iload_n 2, 1) := by decide +kernel
theorem dX1_addPlace_41 : decode cX1_addPlace 41 = .ok (.invokevirtual 56, 3) := by decide +kernel
theorem dX1_addPlace_44 : decode cX1_addPlace 44 = .ok (.return_, 1) := by decide +kernel
theorem dX2_init_0 : decode cX2_init 0 = .ok (.aload_n 0, 1) := by decide +kernel
theorem dX2_init_1 : decode cX2_init 1 = .ok (.invokespecial 3, 3) := by decide +kernel
theorem dX2_init_4 : decode cX2_init 4 = .ok (.aload_n 0, 1) := by decide +kernel
theorem dX2_init_5 : decode cX2_init 5 = .ok (.new 9, 3) := by decide +kernel
theorem dX2_init_8 : decode cX2_init 8 = .ok (.dup, 1) := by decide +kernel
theorem dX2_init_9 : decode cX2_init 9 = .ok (.invokespecial 11, 3) := by decide +kernel
theorem dX2_init_12 : decode cX2_init 12 = .ok (.putfield 12, 3) := by decide +kernel
theorem dX2_init_15 : decode cX2_init 15 = .ok (.aload_n 0, 1) := by decide +kernel
theorem dX2_init_16 : decode cX2_init 16 = .ok (.new 18, 3) := by decide +kernel
theorem dX2_init_19 : decode cX2_init 19 = .ok (.dup, 1) := by decide +kernel
theorem dX2_init_20 : decode cX2_init 20 = .ok (.invokespecial 20, 3) := by decide +kernel
theorem dX2_init_23 : decode cX2_init 23 = .ok (.putfield 21, 3) := by decide +kernel
theorem dX2_init_26 : decode cX2_init 26 = .ok (.aload_n 0, 1) := by decide +kernel
theorem dX2_init_27 : decode cX2_init 27 = .ok (.bipush 6, 2) := by decide +kernel
theorem dX2_init_29 : decode cX2_init 29 = .ok (.newarray .int, 2) := by decide +kernel
theorem dX2_init_31 : decode cX2_init 31 = .ok (.putfield 25, 3) := by decide +kernel
theorem dX2_init_34 : decode cX2_init 34 = .ok (.aload_n 0, 1) := by decide +kernel
theorem dX2_init_35 : decode cX2_init 35 = .ok (.bipush 6, 2) := by decide +kernel
theorem dX2_init_37 : decode cX2_init 37 = .ok (.newarray .int, 2) := by decide +kernel
theorem dX2_init_39 : decode cX2_init 39 = .ok (.putfield 29, 3) := by decide +kernel
theorem dX2_init_42 : decode cX2_init 42 = .ok (.aload_n 0, 1) := by decide +kernel
theorem dX2_init_43 : decode cX2_init 43 = .ok (.bipush 6, 2) := by decide +kernel
theorem dX2_init_45 : decode cX2_init 45 = .ok (.newarray .int, 2) := by decide +kernel
theorem dX2_init_47 : decode cX2_init 47 = .ok (.putfield 32, 3) := by decide +kernel
theorem dX2_init_50 : decode cX2_init 50 = .ok (.aload_n 0, 1) := by decide +kernel
theorem dX2_init_51 : decode cX2_init 51 = .ok (.iconst 0, 1) := by decide +kernel
theorem dX2_init_52 : decode cX2_init 52 = .ok (.putfield 35, 3) := by decide +kernel
theorem dX2_init_55 : decode cX2_init 55 = .ok (.aload_n 0, 1) := by decide +kernel
theorem dX2_init_56 : decode cX2_init 56 = .ok (.bipush 6, 2) := by decide +kernel
theorem dX2_init_58 : decode cX2_init 58 = .ok (.newarray .int, 2) := by decide +kernel
theorem dX2_init_60 : decode cX2_init 60 = .ok (.putfield 39, 3) := by decide +kernel
theorem dX2_init_63 : decode cX2_init 63 = .ok (.aload_n 0, 1) := by decide +kernel
theorem dX2_init_64 : decode cX2_init 64 = .ok (.aload_n 1, 1) := by decide +kernel
theorem dX2_init_65 : decode cX2_init 65 = .ok (.putfield 42, 3) := by decide +kernel
theorem dX2_init_68 : decode cX2_init 68 = .ok (.return_, 1) := by decide +kernel
theorem dX2_begin_0 : decode cX2_begin 0 = .ok (.aload_n 0, 1) := by decide +kernel
theorem dX2_begin_1 : decode cX2_begin 1 = .ok (.aload_n 1, 1) := by decide +kernel
theorem dX2_begin_2 : decode cX2_begin 2 = .ok (.putfield 42, 3) := by decide +kernel
theorem dX2_begin_5 : decode cX2_begin 5 = .ok (.aload_n 0, 1) := by decide +kernel
theorem dX2_begin_6 : decode cX2_begin 6 = .ok (.getfield 12, 3) := by decide +kernel
theorem dX2_begin_9 : decode cX2_begin 9 = .ok (.aload_n 2, 1) := by decide +kernel
theorem dX2_begin_10 : decode cX2_begin 10 = .ok (.invokevirtual 46, 3) := by decide +kernel
theorem dX2_begin_13 : decode cX2_begin 13 = .ok (.aload_n 0, 1) := by decide +kernel
theorem dX2_begin_14 : decode cX2_begin 14 = .ok (.iconst 0, 1) := by decide +kernel
theorem dX2_begin_15 : decode cX2_begin 15 = .ok (.putfield 35, 3) := by decide +kernel
theorem dX2_begin_18 : decode cX2_begin 18 = .ok (.iconst 0, 1) := by decide +kernel
theorem dX2_begin_19 : decode cX2_begin 19 = .ok (.istore_n 3, 1) := by decide +kernel
theorem dX2_begin_20 : decode cX2_begin 20 = .ok (.iload_n 3, 1) := by decide +kernel
theorem dX2_begin_21 : decode cX2_begin 21 = .ok (.bipush 6, 2) := by decide +kernel
theorem dX2_begin_23 : decode cX2_begin 23 = .ok (.if_icmp .ge 35, 3) := by decide +kernel
theorem dX2_begin_26 : decode cX2_begin 26 = .ok (.aload_n 0, 1) := by decide +kernel
theorem dX2_begin_27 : decode cX2_begin 27 = .ok (.getfield 25, 3) := by decide +kernel
theorem dX2_begin_30 : decode cX2_begin 30 = .ok (.iload_n 3, 1) := by decide +kernel
theorem dX2_begin_31 : decode cX2_begin 31 = .ok (.aload_n 1, 1) := by decide +kernel
theorem dX2_begin_32 : decode cX2_begin 32 = .ok (.getfield 50, 3) := by decide +kernel
theorem dX2_begin_35 : decode cX2_begin 35 = .ok (.iload_n 3, 1) := by decide +kernel
theorem dX2_begin_36 : decode cX2_begin 36 = .ok (.iaload, 1) := by decide +kernel
theorem dX2_begin_37 : decode cX2_begin 37 = .ok (.iastore, 1) := by decide +kernel
theorem dX2_begin_38 : decode cX2_begin 38 = .ok (.aload_n 0, 1) := by decide +kernel
theorem dX2_begin_39 : decode cX2_begin 39 = .ok (.getfield 29, 3) := by decide +kernel
theorem dX2_begin_42 : decode cX2_begin 42 = .ok (.iload_n 3, 1) := by decide +kernel
theorem dX2_begin_43 : decode cX2_begin 43 = .ok (.iconst 0, 1) := by decide +kernel
theorem dX2_begin_44 : decode cX2_begin 44 = .ok (.iastore, 1) := by decide +kernel
theorem dX2_begin_45 : decode cX2_begin 45 = .ok (.aload_n 0, 1) := by decide +kernel
theorem dX2_begin_46 : decode cX2_begin 46 = .ok (.getfield 32, 3) := by decide +kernel
theorem dX2_begin_49 : decode cX2_begin 49 = .ok (.iload_n 3, 1) := by decide +kernel
theorem dX2_begin_50 : decode cX2_begin 50 = .ok (.iconst 0, 1) := by decide +kernel
theorem dX2_begin_51 : decode cX2_begin 51 = .ok (.iastore, 1) := by decide +kernel
theorem dX2_begin_52 : decode cX2_begin 52 = .ok (.iinc 3 1, 3) := by decide +kernel
theorem dX2_begin_55 : decode cX2_begin 55 = .ok (.goto (-35), 3) := by decide +kernel
theorem dX2_begin_58 : decode cX2_begin 58 = .ok (.return_, 1) := by decide +kernel
theorem dX2_pass_0 : decode cX2_pass 0 = .ok (.aload_n 0, 1) := by decide +kernel
theorem dX2_pass_1 : decode cX2_pass 1 = .ok (.getfield 21, 3) := by decide +kernel
theorem dX2_pass_4 : decode cX2_pass 4 = .ok (.aload_n 0, 1) := by decide +kernel
theorem dX2_pass_5 : decode cX2_pass 5 = .ok (.getfield 42, 3) := by decide +kernel
theorem dX2_pass_8 : decode cX2_pass 8 = .ok (.aload_n 0, 1) := by decide +kernel
theorem dX2_pass_9 : decode cX2_pass 9 = .ok (.getfield 12, 3) := by decide +kernel
theorem dX2_pass_12 : decode cX2_pass 12 = .ok (.invokevirtual 53, 3) := by decide +kernel
theorem dX2_pass_15 : decode cX2_pass 15 = .ok (.iconst 0, 1) := by decide +kernel
theorem dX2_pass_16 : decode cX2_pass 16 = .ok (.istore_n 2, 1) := by decide +kernel
theorem dX2_pass_17 : decode cX2_pass 17 = .ok (.iload_n 2, 1) := by decide +kernel
theorem dX2_pass_18 : decode cX2_pass 18 = .ok (.aload_n 0, 1) := by decide +kernel
theorem dX2_pass_19 : decode cX2_pass 19 = .ok (.getfield 42, 3) := by decide +kernel
theorem dX2_pass_22 : decode cX2_pass 22 = .ok (.getfield 57, 3) := by decide +kernel
theorem dX2_pass_25 : decode cX2_pass 25 = .ok (.if_icmp .ge 85, 3) := by decide +kernel
theorem dX2_pass_28 : decode cX2_pass 28 = .ok (.iload_n 1, 1) := by decide +kernel
theorem dX2_pass_29 : decode cX2_pass 29 = .ok (.ifCond .eq 21, 3) := by decide +kernel
theorem dX2_pass_32 : decode cX2_pass 32 = .ok (.aload_n 0, 1) := by decide +kernel
theorem dX2_pass_33 : decode cX2_pass 33 = .ok (.getfield 12, 3) := by decide +kernel
theorem dX2_pass_36 : decode cX2_pass 36 = .ok (.getfield 60, 3) := by decide +kernel
theorem dX2_pass_39 : decode cX2_pass 39 = .ok (.iload_n 2, 1) := by decide +kernel
theorem dX2_pass_40 : decode cX2_pass 40 = .ok (.iaload, 1) := by decide +kernel
theorem dX2_pass_41 : decode cX2_pass 41 = .ok (.iconst (-1), 1) := by decide +kernel
theorem dX2_pass_42 : decode cX2_pass 42 = .ok (.if_icmp .eq 8, 3) := by decide +kernel
theorem dX2_pass_45 : decode cX2_pass 45 = .ok (.aload_n 0, 1) := by decide +kernel
theorem dX2_pass_46 : decode cX2_pass 46 = .ok (.iload_n 2, 1) := by decide +kernel
theorem dX2_pass_47 : decode cX2_pass 47 = .ok (.invokevirtual 63, 3) := by decide +kernel
theorem dX2_pass_50 : decode cX2_pass 50 = .ok (.aload_n 0, 1) := by decide +kernel
theorem dX2_pass_51 : decode cX2_pass 51 = .ok (.getfield 12, 3) := by decide +kernel
theorem dX2_pass_54 : decode cX2_pass 54 = .ok (.getfield 60, 3) := by decide +kernel
theorem dX2_pass_57 : decode cX2_pass 57 = .ok (.iload_n 2, 1) := by decide +kernel
theorem dX2_pass_58 : decode cX2_pass 58 = .ok (.iaload, 1) := by decide +kernel
theorem dX2_pass_59 : decode cX2_pass 59 = .ok (.iconst (-1), 1) := by decide +kernel
theorem dX2_pass_60 : decode cX2_pass 60 = .ok (.if_icmp .eq 44, 3) := by decide +kernel
theorem dX2_pass_63 : decode cX2_pass 63 = .ok (.aload_n 0, 1) := by decide +kernel
theorem dX2_pass_64 : decode cX2_pass 64 = .ok (.getfield 12, 3) := by decide +kernel
theorem dX2_pass_67 : decode cX2_pass 67 = .ok (.getfield 60, 3) := by decide +kernel
theorem dX2_pass_70 : decode cX2_pass 70 = .ok (.iload_n 2, 1) := by decide +kernel
theorem dX2_pass_71 : decode cX2_pass 71 = .ok (.iaload, 1) := by decide +kernel
theorem dX2_pass_72 : decode cX2_pass 72 = .ok (.aload_n 0, 1) := by decide +kernel
theorem dX2_pass_73 : decode cX2_pass 73 = .ok (.getfield 12, 3) := by decide +kernel
theorem dX2_pass_76 : decode cX2_pass 76 = .ok (.getfield 67, 3) := by decide +kernel
theorem dX2_pass_79 : decode cX2_pass 79 = .ok (.iload_n 2, 1) := by decide +kernel
theorem dX2_pass_80 : decode cX2_pass 80 = .ok (.iaload, 1) := by decide +kernel
theorem dX2_pass_81 : decode cX2_pass 81 = .ok (.if_icmp .ne 23, 3) := by decide +kernel
theorem dX2_pass_84 : decode cX2_pass 84 = .ok (.aload_n 0, 1) := by decide +kernel
theorem dX2_pass_85 : decode cX2_pass 85 = .ok (.getfield 12, 3) := by decide +kernel
theorem dX2_pass_88 : decode cX2_pass 88 = .ok (.getfield 60, 3) := by decide +kernel
theorem dX2_pass_91 : decode cX2_pass 91 = .ok (.iload_n 2, 1) := by decide +kernel
theorem dX2_pass_92 : decode cX2_pass 92 = .ok (.iconst (-1), 1) := by decide +kernel
theorem dX2_pass_93 : decode cX2_pass 93 = .ok (.iastore, 1) := by decide +kernel
theorem dX2_pass_94 : decode cX2_pass 94 = .ok (.aload_n 0, 1) := by decide +kernel
theorem dX2_pass_95 : decode cX2_pass 95 = .ok (.getfield 32, 3) := by decide +kernel
theorem dX2_pass_98 : decode cX2_pass 98 = .ok (.iload_n 2, 1) := by decide +kernel
theorem dX2_pass_99 : decode cX2_pass 99 = .ok (.dup2, 1) := by decide +kernel
theorem dX2_pass_100 : decode cX2_pass 100 = .ok (.iaload, 1) := by decide +kernel
theorem dX2_pass_101 : decode cX2_pass 101 = .ok (.iconst 1, 1) := by decide +kernel
theorem dX2_pass_102 : decode cX2_pass 102 = .ok (.iadd, 1) := by decide +kernel
theorem dX2_pass_103 : decode cX2_pass 103 = .ok (.iastore, 1) := by decide +kernel
theorem dX2_pass_104 : decode cX2_pass 104 = .ok (.iinc 2 1, 3) := by decide +kernel
theorem dX2_pass_107 : decode cX2_pass 107 = .ok (.goto (-90), 3) := by decide +kernel
theorem dX2_pass_110 : decode cX2_pass 110 = .ok (.aload_n 0, 1) := by decide +kernel
theorem dX2_pass_111 : decode cX2_pass 111 = .ok (.invokevirtual 70, 3) := by decide +kernel
theorem dX2_pass_114 : decode cX2_pass 114 = .ok (.aload_n 0, 1) := by decide +kernel
theorem dX2_pass_115 : decode cX2_pass 115 = .ok (.invokevirtual 73, 3) := by decide +kernel
theorem dX2_pass_118 : decode cX2_pass 118 = .ok (.aload_n 0, 1) := by decide +kernel
theorem dX2_pass_119 : decode cX2_pass 119 = .ok (.getfield 12, 3) := by decide +kernel
theorem dX2_pass_122 : decode cX2_pass 122 = .ok (.dup, 1) := by decide +kernel
theorem dX2_pass_123 : decode cX2_pass 123 = .ok (.getfield 76, 3) := by decide +kernel
theorem dX2_pass_126 : decode cX2_pass 126 = .ok (.iconst 1, 1) := by decide +kernel
theorem dX2_pass_127 : decode cX2_pass 127 = .ok (.iadd, 1) := by decide +kernel
theorem dX2_pass_128 : decode cX2_pass 128 = .ok (.putfield 76, 3) := by decide +kernel
theorem dX2_pass_131 : decode cX2_pass 131 = .ok (.return_, 1) := by decide +kernel
theorem dX2_walk_0 : decode cX2_walk 0 = .ok (.aload_n 0, 1) := by decide +kernel
theorem dX2_walk_1 : decode cX2_walk 1 = .ok (.getfield 21, 3) := by decide +kernel
theorem dX2_walk_4 : decode cX2_walk 4 = .ok (.aload_n 0, 1) := by decide +kernel
theorem dX2_walk_5 : decode cX2_walk 5 = .ok (.getfield 12, 3) := by decide +kernel
theorem dX2_walk_8 : decode cX2_walk 8 = .ok (.getfield 67, 3) := by decide +kernel
theorem dX2_walk_11 : decode cX2_walk 11 = .ok (.iload_n 1, 1) := by decide +kernel
theorem dX2_walk_12 : decode cX2_walk 12 = .ok (.iaload, 1) := by decide +kernel
theorem dX2_walk_13 : decode cX2_walk 13 = .ok (.aload_n 0, 1) := by decide +kernel
theorem dX2_walk_14 : decode cX2_walk 14 = .ok (.getfield 12, 3) := by decide +kernel
theorem dX2_walk_17 : decode cX2_walk 17 = .ok (.getfield 60, 3) := by decide +kernel
theorem dX2_walk_20 : decode cX2_walk 20 = .ok (.iload_n 1, 1) := by decide +kernel
theorem dX2_walk_21 : decode cX2_walk 21 = .ok (.iaload, 1) := by decide +kernel
theorem dX2_walk_22 : decode cX2_walk 22 = .ok (.invokevirtual 79, 3) := by decide +kernel
theorem dX2_walk_25 : decode cX2_walk 25 = .ok (.istore_n 2, 1) := by decide +kernel
theorem dX2_walk_26 : decode cX2_walk 26 = .ok (.iconst 0, 1) := by decide +kernel
theorem dX2_walk_27 : decode cX2_walk 27 = .ok (.istore_n 3, 1) := by decide +kernel
theorem dX2_walk_28 : decode cX2_walk 28 = .ok (.iload_n 3, 1) := by decide +kernel
theorem dX2_walk_29 : decode cX2_walk 29 = .ok (.aload_n 0, 1) := by decide +kernel
theorem dX2_walk_30 : decode cX2_walk 30 = .ok (.getfield 25, 3) := by decide +kernel
theorem dX2_walk_33 : decode cX2_walk 33 = .ok (.iload_n 1, 1) := by decide +kernel
theorem dX2_walk_34 : decode cX2_walk 34 = .ok (.iaload, 1) := by decide +kernel
theorem dX2_walk_35 : decode cX2_walk 35 = .ok (.if_icmp .ge 52, 3) := by decide +kernel
theorem dX2_walk_38 : decode cX2_walk 38 = .ok (.iload_n 2, 1) := by decide +kernel
theorem dX2_walk_39 : decode cX2_walk 39 = .ok (.ifCond .le 48, 3) := by decide +kernel
theorem dX2_walk_42 : decode cX2_walk 42 = .ok (.aload_n 0, 1) := by decide +kernel
theorem dX2_walk_43 : decode cX2_walk 43 = .ok (.iload_n 1, 1) := by decide +kernel
theorem dX2_walk_44 : decode cX2_walk 44 = .ok (.iload_n 3, 1) := by decide +kernel
theorem dX2_walk_45 : decode cX2_walk 45 = .ok (.iload_n 2, 1) := by decide +kernel
theorem dX2_walk_46 : decode cX2_walk 46 = .ok (.invokevirtual 83, 3) := by decide +kernel
theorem dX2_walk_49 : decode cX2_walk 49 = .ok (.ifCond .eq 38, 3) := by decide +kernel
theorem dX2_walk_52 : decode cX2_walk 52 = .ok (.aload_n 0, 1) := by decide +kernel
theorem dX2_walk_53 : decode cX2_walk 53 = .ok (.getfield 12, 3) := by decide +kernel
theorem dX2_walk_56 : decode cX2_walk 56 = .ok (.getfield 67, 3) := by decide +kernel
theorem dX2_walk_59 : decode cX2_walk 59 = .ok (.iload_n 1, 1) := by decide +kernel
theorem dX2_walk_60 : decode cX2_walk 60 = .ok (.aload_n 0, 1) := by decide +kernel
theorem dX2_walk_61 : decode cX2_walk 61 = .ok (.getfield 21, 3) := by decide +kernel
theorem dX2_walk_64 : decode cX2_walk 64 = .ok (.aload_n 0, 1) := by decide +kernel
theorem dX2_walk_65 : decode cX2_walk 65 = .ok (.getfield 12, 3) := by decide +kernel
theorem dX2_walk_68 : decode cX2_walk 68 = .ok (.getfield 67, 3) := by decide +kernel
theorem dX2_walk_71 : decode cX2_walk 71 = .ok (.iload_n 1, 1) := by decide +kernel
theorem dX2_walk_72 : decode cX2_walk 72 = .ok (.iaload, 1) := by decide +kernel
theorem dX2_walk_73 : decode cX2_walk 73 = .ok (.iload_n 2, 1) := by decide +kernel
theorem dX2_walk_74 : decode cX2_walk 74 = .ok (.invokevirtual 87, 3) := by decide +kernel
theorem dX2_walk_77 : decode cX2_walk 77 = .ok (.iastore, 1) := by decide +kernel
theorem dX2_walk_78 : decode cX2_walk 78 = .ok (.iinc 2 (-1), 3) := by decide +kernel
theorem dX2_walk_81 : decode cX2_walk 81 = .ok (.iinc 3 1, 3) := by decide +kernel
theorem dX2_walk_84 : decode cX2_walk 84 = .ok (.goto (-56), 3) := by decide +kernel
theorem dX2_walk_87 : decode cX2_walk 87 = .ok (.aload_n 0, 1) := by decide +kernel
theorem dX2_walk_88 : decode cX2_walk 88 = .ok (.getfield 29, 3) := by decide +kernel
theorem dX2_walk_91 : decode cX2_walk 91 = .ok (.iload_n 1, 1) := by decide +kernel
theorem dX2_walk_92 : decode cX2_walk 92 = .ok (.dup2, 1) := by decide +kernel
theorem dX2_walk_93 : decode cX2_walk 93 = .ok (.iaload, 1) := by decide +kernel
theorem dX2_walk_94 : decode cX2_walk 94 = .ok (.iload_n 3, 1) := by decide +kernel
theorem dX2_walk_95 : decode cX2_walk 95 = .ok (.iadd, 1) := by decide +kernel
theorem dX2_walk_96 : decode cX2_walk 96 = .ok (.iastore, 1) := by decide +kernel
theorem dX2_walk_97 : decode cX2_walk 97 = .ok (.return_, 1) := by decide +kernel
theorem dX2_goesOn_0 : decode cX2_goesOn 0 = .ok (.aload_n 0, 1) := by decide +kernel
theorem dX2_goesOn_1 : decode cX2_goesOn 1 = .ok (.getfield 42, 3) := by decide +kernel
theorem dX2_goesOn_4 : decode cX2_goesOn 4 = .ok (.getfield 90, 3) := by decide +kernel
theorem dX2_goesOn_7 : decode cX2_goesOn 7 = .ok (.invokevirtual 94, 3) := by decide +kernel
theorem dX2_goesOn_10 : decode cX2_goesOn 10 = .ok (.ifCond .ne 5, 3) := by decide +kernel
theorem dX2_goesOn_13 : decode cX2_goesOn 13 = .ok (.iconst 1, 1) := by decide +kernel
theorem dX2_goesOn_14 : decode cX2_goesOn 14 = .ok (.ireturn, 1) := by decide +kernel
theorem dX2_goesOn_15 : decode cX2_goesOn 15 = .ok (.aload_n 0, 1) := by decide +kernel
theorem dX2_goesOn_16 : decode cX2_goesOn 16 = .ok (.getfield 39, 3) := by decide +kernel
theorem dX2_goesOn_19 : decode cX2_goesOn 19 = .ok (.iconst 0, 1) := by decide +kernel
theorem dX2_goesOn_20 : decode cX2_goesOn 20 = .ok (.aload_n 0, 1) := by decide +kernel
theorem dX2_goesOn_21 : decode cX2_goesOn 21 = .ok (.getfield 25, 3) := by decide +kernel
theorem dX2_goesOn_24 : decode cX2_goesOn 24 = .ok (.iload_n 1, 1) := by decide +kernel
theorem dX2_goesOn_25 : decode cX2_goesOn 25 = .ok (.iaload, 1) := by decide +kernel
theorem dX2_goesOn_26 : decode cX2_goesOn 26 = .ok (.iastore, 1) := by decide +kernel
theorem dX2_goesOn_27 : decode cX2_goesOn 27 = .ok (.aload_n 0, 1) := by decide +kernel
theorem dX2_goesOn_28 : decode cX2_goesOn 28 = .ok (.getfield 39, 3) := by decide +kernel
theorem dX2_goesOn_31 : decode cX2_goesOn 31 = .ok (.iconst 1, 1) := by decide +kernel
theorem dX2_goesOn_32 : decode cX2_goesOn 32 = .ok (.iload_n 2, 1) := by decide +kernel
theorem dX2_goesOn_33 : decode cX2_goesOn 33 = .ok (.iastore, 1) := by decide +kernel
theorem dX2_goesOn_34 : decode cX2_goesOn 34 = .ok (.aload_n 0, 1) := by decide +kernel
theorem dX2_goesOn_35 : decode cX2_goesOn 35 = .ok (.getfield 39, 3) := by decide +kernel
theorem dX2_goesOn_38 : decode cX2_goesOn 38 = .ok (.iconst 2, 1) := by decide +kernel
theorem dX2_goesOn_39 : decode cX2_goesOn 39 = .ok (.iload_n 3, 1) := by decide +kernel
theorem dX2_goesOn_40 : decode cX2_goesOn 40 = .ok (.iastore, 1) := by decide +kernel
theorem dX2_goesOn_41 : decode cX2_goesOn 41 = .ok (.aload_n 0, 1) := by decide +kernel
theorem dX2_goesOn_42 : decode cX2_goesOn 42 = .ok (.getfield 39, 3) := by decide +kernel
theorem dX2_goesOn_45 : decode cX2_goesOn 45 = .ok (.iconst 3, 1) := by decide +kernel
theorem dX2_goesOn_46 : decode cX2_goesOn 46 = .ok (.aload_n 0, 1) := by decide +kernel
theorem dX2_goesOn_47 : decode cX2_goesOn 47 = .ok (.getfield 12, 3) := by decide +kernel
theorem dX2_goesOn_50 : decode cX2_goesOn 50 = .ok (.iload_n 1, 1) := by decide +kernel
theorem dX2_goesOn_51 : decode cX2_goesOn 51 = .ok (.invokevirtual 100, 3) := by decide +kernel
theorem dX2_goesOn_54 : decode cX2_goesOn 54 = .ok (.iastore, 1) := by decide +kernel
theorem dX2_goesOn_55 : decode cX2_goesOn 55 = .ok (.aload_n 0, 1) := by decide +kernel
theorem dX2_goesOn_56 : decode cX2_goesOn 56 = .ok (.getfield 39, 3) := by decide +kernel
theorem dX2_goesOn_59 : decode cX2_goesOn 59 = .ok (.iconst 4, 1) := by decide +kernel
theorem dX2_goesOn_60 : decode cX2_goesOn 60 = .ok (.aload_n 0, 1) := by decide +kernel
theorem dX2_goesOn_61 : decode cX2_goesOn 61 = .ok (.getfield 12, 3) := by decide +kernel
theorem dX2_goesOn_64 : decode cX2_goesOn 64 = .ok (.getfield 104, 3) := by decide +kernel
theorem dX2_goesOn_67 : decode cX2_goesOn 67 = .ok (.iload_n 1, 1) := by decide +kernel
theorem dX2_goesOn_68 : decode cX2_goesOn 68 = .ok (.iaload, 1) := by decide +kernel
theorem dX2_goesOn_69 : decode cX2_goesOn 69 = .ok (.iastore, 1) := by decide +kernel
theorem dX2_goesOn_70 : decode cX2_goesOn 70 = .ok (.aload_n 0, 1) := by decide +kernel
theorem dX2_goesOn_71 : decode cX2_goesOn 71 = .ok (.getfield 39, 3) := by decide +kernel
theorem dX2_goesOn_74 : decode cX2_goesOn 74 = .ok (.iconst 5, 1) := by decide +kernel
theorem dX2_goesOn_75 : decode cX2_goesOn 75 = .ok (.aload_n 0, 1) := by decide +kernel
theorem dX2_goesOn_76 : decode cX2_goesOn 76 = .ok (.getfield 12, 3) := by decide +kernel
theorem dX2_goesOn_79 : decode cX2_goesOn 79 = .ok (.getfield 76, 3) := by decide +kernel
theorem dX2_goesOn_82 : decode cX2_goesOn 82 = .ok (.iastore, 1) := by decide +kernel
theorem dX2_goesOn_83 : decode cX2_goesOn 83 = .ok (.aload_n 0, 1) := by decide +kernel
theorem dX2_goesOn_84 : decode cX2_goesOn 84 = .ok (.getfield 42, 3) := by decide +kernel
theorem dX2_goesOn_87 : decode cX2_goesOn 87 = .ok (.getfield 90, 3) := by decide +kernel
theorem dX2_goesOn_90 : decode cX2_goesOn 90 = .ok (.aload_n 0, 1) := by decide +kernel
theorem dX2_goesOn_91 : decode cX2_goesOn 91 = .ok (.getfield 39, 3) := by decide +kernel
theorem dX2_goesOn_94 : decode cX2_goesOn 94 = .ok (.invokevirtual 107, 3) := by decide +kernel
theorem dX2_goesOn_97 : decode cX2_goesOn 97 = .ok (.ifCond .le 7, 3) := by decide +kernel
theorem dX2_goesOn_100 : decode cX2_goesOn 100 = .ok (.iconst 1, 1) := by decide +kernel
theorem dX2_goesOn_101 : decode cX2_goesOn 101 = .ok (.goto 4, 3) := by decide +kernel
theorem dX2_goesOn_104 : decode cX2_goesOn 104 = .ok (.iconst 0, 1) := by decide +kernel
theorem dX2_goesOn_105 : decode cX2_goesOn 105 = .ok (.ireturn, 1) := by decide +kernel
theorem dX2_greet_0 : decode cX2_greet 0 = .ok (.iconst 0, 1) := by decide +kernel
theorem dX2_greet_1 : decode cX2_greet 1 = .ok (.istore_n 1, 1) := by decide +kernel
theorem dX2_greet_2 : decode cX2_greet 2 = .ok (.iload_n 1, 1) := by decide +kernel
theorem dX2_greet_3 : decode cX2_greet 3 = .ok (.aload_n 0, 1) := by decide +kernel
theorem dX2_greet_4 : decode cX2_greet 4 = .ok (.getfield 42, 3) := by decide +kernel
theorem dX2_greet_7 : decode cX2_greet 7 = .ok (.getfield 57, 3) := by decide +kernel
theorem dX2_greet_10 : decode cX2_greet 10 = .ok (.if_icmp .ge 60, 3) := by decide +kernel
theorem dX2_greet_13 : decode cX2_greet 13 = .ok (.aload_n 0, 1) := by decide +kernel
theorem dX2_greet_14 : decode cX2_greet 14 = .ok (.getfield 12, 3) := by decide +kernel
theorem dX2_greet_17 : decode cX2_greet 17 = .ok (.iload_n 1, 1) := by decide +kernel
theorem dX2_greet_18 : decode cX2_greet 18 = .ok (.invokevirtual 100, 3) := by decide +kernel
theorem dX2_greet_21 : decode cX2_greet 21 = .ok (.istore_n 2, 1) := by decide +kernel
theorem dX2_greet_22 : decode cX2_greet 22 = .ok (.aload_n 0, 1) := by decide +kernel
theorem dX2_greet_23 : decode cX2_greet 23 = .ok (.getfield 12, 3) := by decide +kernel
theorem dX2_greet_26 : decode cX2_greet 26 = .ok (.getfield 104, 3) := by decide +kernel
theorem dX2_greet_29 : decode cX2_greet 29 = .ok (.iload_n 1, 1) := by decide +kernel
theorem dX2_greet_30 : decode cX2_greet 30 = .ok (.sipush 9999, 3) := by decide +kernel
theorem dX2_greet_33 : decode cX2_greet 33 = .ok (.aload_n 0, 1) := by decide +kernel
theorem dX2_greet_34 : decode cX2_greet 34 = .ok (.getfield 12, 3) := by decide +kernel
theorem dX2_greet_37 : decode cX2_greet 37 = .ok (.getfield 104, 3) := by decide +kernel
theorem dX2_greet_40 : decode cX2_greet 40 = .ok (.iload_n 1, 1) := by decide +kernel
theorem dX2_greet_41 : decode cX2_greet 41 = .ok (.iaload, 1) := by decide +kernel
theorem dX2_greet_42 : decode cX2_greet 42 = .ok (.iload_n 2, 1) := by decide +kernel
theorem dX2_greet_43 : decode cX2_greet 43 = .ok (.iadd, 1) := by decide +kernel
theorem dX2_greet_44 : decode cX2_greet 44 = .ok (.invokestatic 111, 3) := by decide +kernel
theorem dX2_greet_47 : decode cX2_greet 47 = .ok (.iastore, 1) := by decide +kernel
theorem dX2_greet_48 : decode cX2_greet 48 = .ok (.iload_n 2, 1) := by decide +kernel
theorem dX2_greet_49 : decode cX2_greet 49 = .ok (.ifCond .le 15, 3) := by decide +kernel
theorem dX2_greet_52 : decode cX2_greet 52 = .ok (.aload_n 0, 1) := by decide +kernel
theorem dX2_greet_53 : decode cX2_greet 53 = .ok (.dup, 1) := by decide +kernel
theorem dX2_greet_54 : decode cX2_greet 54 = .ok (.getfield 35, 3) := by decide +kernel
theorem dX2_greet_57 : decode cX2_greet 57 = .ok (.iconst 1, 1) := by decide +kernel
theorem dX2_greet_58 : decode cX2_greet 58 = .ok (.iload_n 1, 1) := by decide +kernel
theorem dX2_greet_59 : decode cX2_greet 59 = .ok (.ishl, 1) := by decide +kernel
theorem dX2_greet_60 : decode cX2_greet 60 = .ok (.ior, 1) := by decide +kernel
theorem dX2_greet_61 : decode cX2_greet 61 = .ok (.putfield 35, 3) := by decide +kernel
theorem dX2_greet_64 : decode cX2_greet 64 = .ok (.iinc 1 1, 3) := by decide +kernel
theorem dX2_greet_67 : decode cX2_greet 67 = .ok (.goto (-65), 3) := by decide +kernel
theorem dX2_greet_70 : decode cX2_greet 70 = .ok (.return_, 1) := by decide +kernel
theorem dX2_fade_0 : decode cX2_fade 0 = .ok (.iconst 0, 1) := by decide +kernel
theorem dX2_fade_1 : decode cX2_fade 1 = .ok (.istore_n 1, 1) := by decide +kernel
theorem dX2_fade_2 : decode cX2_fade 2 = .ok (.iload_n 1, 1) := by decide +kernel
theorem dX2_fade_3 : decode cX2_fade 3 = .ok (.bipush 48, 2) := by decide +kernel
theorem dX2_fade_5 : decode cX2_fade 5 = .ok (.if_icmp .ge 48, 3) := by decide +kernel
theorem dX2_fade_8 : decode cX2_fade 8 = .ok (.aload_n 0, 1) := by decide +kernel
theorem dX2_fade_9 : decode cX2_fade 9 = .ok (.getfield 12, 3) := by decide +kernel
theorem dX2_fade_12 : decode cX2_fade 12 = .ok (.getfield 116, 3) := by decide +kernel
theorem dX2_fade_15 : decode cX2_fade 15 = .ok (.iload_n 1, 1) := by decide +kernel
theorem dX2_fade_16 : decode cX2_fade 16 = .ok (.iaload, 1) := by decide +kernel
theorem dX2_fade_17 : decode cX2_fade 17 = .ok (.istore_n 2, 1) := by decide +kernel
theorem dX2_fade_18 : decode cX2_fade 18 = .ok (.iload_n 2, 1) := by decide +kernel
theorem dX2_fade_19 : decode cX2_fade 19 = .ok (.ifCond .le 28, 3) := by decide +kernel
theorem dX2_fade_22 : decode cX2_fade 22 = .ok (.iconst 0, 1) := by decide +kernel
theorem dX2_fade_23 : decode cX2_fade 23 = .ok (.iload_n 2, 1) := by decide +kernel
theorem dX2_fade_24 : decode cX2_fade 24 = .ok (.aload_n 0, 1) := by decide +kernel
theorem dX2_fade_25 : decode cX2_fade 25 = .ok (.iload_n 1, 1) := by decide +kernel
theorem dX2_fade_26 : decode cX2_fade 26 = .ok (.invokevirtual 119, 3) := by decide +kernel
theorem dX2_fade_29 : decode cX2_fade 29 = .ok (.invokestatic 111, 3) := by decide +kernel
theorem dX2_fade_32 : decode cX2_fade 32 = .ok (.invokestatic 122, 3) := by decide +kernel
theorem dX2_fade_35 : decode cX2_fade 35 = .ok (.istore_n 3, 1) := by decide +kernel
theorem dX2_fade_36 : decode cX2_fade 36 = .ok (.aload_n 0, 1) := by decide +kernel
theorem dX2_fade_37 : decode cX2_fade 37 = .ok (.getfield 12, 3) := by decide +kernel
theorem dX2_fade_40 : decode cX2_fade 40 = .ok (.iload_n 1, 1) := by decide +kernel
theorem dX2_fade_41 : decode cX2_fade 41 = .ok (.iload_n 2, 1) := by decide +kernel
theorem dX2_fade_42 : decode cX2_fade 42 = .ok (.iload_n 3, 1) := by decide +kernel
theorem dX2_fade_43 : decode cX2_fade 43 = .ok (.isub, 1) := by decide +kernel
theorem dX2_fade_44 : decode cX2_fade 44 = .ok (.invokevirtual 125, 3) := by decide +kernel
theorem dX2_fade_47 : decode cX2_fade 47 = .ok (.iinc 1 1, 3) := by decide +kernel
theorem dX2_fade_50 : decode cX2_fade 50 = .ok (.goto (-48), 3) := by decide +kernel
theorem dX2_fade_53 : decode cX2_fade 53 = .ok (.return_, 1) := by decide +kernel
theorem dX2_fadesBy_0 : decode cX2_fadesBy 0 = .ok (.aload_n 0, 1) := by decide +kernel
theorem dX2_fadesBy_1 : decode cX2_fadesBy 1 = .ok (.getfield 42, 3) := by decide +kernel
theorem dX2_fadesBy_4 : decode cX2_fadesBy 4 = .ok (.getfield 129, 3) := by decide +kernel
theorem dX2_fadesBy_7 : decode cX2_fadesBy 7 = .ok (.invokevirtual 94, 3) := by decide +kernel
theorem dX2_fadesBy_10 : decode cX2_fadesBy 10 = .ok (.ifCond .ne 22, 3) := by decide +kernel
theorem dX2_fadesBy_13 : decode cX2_fadesBy 13 = .ok (.aload_n 0, 1) := by decide +kernel
theorem dX2_fadesBy_14 : decode cX2_fadesBy 14 = .ok (.getfield 12, 3) := by decide +kernel
theorem dX2_fadesBy_17 : decode cX2_fadesBy 17 = .ok (.getfield 76, 3) := by decide +kernel
theorem dX2_fadesBy_20 : decode cX2_fadesBy 20 = .ok (.iconst 5, 1) := by decide +kernel
theorem dX2_fadesBy_21 : decode cX2_fadesBy 21 = .ok (.irem, 1) := by decide +kernel
theorem dX2_fadesBy_22 : decode cX2_fadesBy 22 = .ok (.iconst 4, 1) := by decide +kernel
theorem dX2_fadesBy_23 : decode cX2_fadesBy 23 = .ok (.if_icmp .ne 7, 3) := by decide +kernel
theorem dX2_fadesBy_26 : decode cX2_fadesBy 26 = .ok (.iconst 1, 1) := by decide +kernel
theorem dX2_fadesBy_27 : decode cX2_fadesBy 27 = .ok (.goto 4, 3) := by decide +kernel
theorem dX2_fadesBy_30 : decode cX2_fadesBy 30 = .ok (.iconst 0, 1) := by decide +kernel
theorem dX2_fadesBy_31 : decode cX2_fadesBy 31 = .ok (.ireturn, 1) := by decide +kernel
theorem dX2_fadesBy_32 : decode cX2_fadesBy 32 = .ok (.aload_n 0, 1) := by decide +kernel
theorem dX2_fadesBy_33 : decode cX2_fadesBy 33 = .ok (.getfield 39, 3) := by decide +kernel
theorem dX2_fadesBy_36 : decode cX2_fadesBy 36 = .ok (.iconst 0, 1) := by decide +kernel
theorem dX2_fadesBy_37 : decode cX2_fadesBy 37 = .ok (.aload_n 0, 1) := by decide +kernel
theorem dX2_fadesBy_38 : decode cX2_fadesBy 38 = .ok (.getfield 12, 3) := by decide +kernel
theorem dX2_fadesBy_41 : decode cX2_fadesBy 41 = .ok (.getfield 116, 3) := by decide +kernel
theorem dX2_fadesBy_44 : decode cX2_fadesBy 44 = .ok (.iload_n 1, 1) := by decide +kernel
theorem dX2_fadesBy_45 : decode cX2_fadesBy 45 = .ok (.iaload, 1) := by decide +kernel
theorem dX2_fadesBy_46 : decode cX2_fadesBy 46 = .ok (.iastore, 1) := by decide +kernel
theorem dX2_fadesBy_47 : decode cX2_fadesBy 47 = .ok (.aload_n 0, 1) := by decide +kernel
theorem dX2_fadesBy_48 : decode cX2_fadesBy 48 = .ok (.getfield 39, 3) := by decide +kernel
theorem dX2_fadesBy_51 : decode cX2_fadesBy 51 = .ok (.iconst 1, 1) := by decide +kernel
theorem dX2_fadesBy_52 : decode cX2_fadesBy 52 = .ok (.iload_n 1, 1) := by decide +kernel
theorem dX2_fadesBy_53 : decode cX2_fadesBy 53 = .ok (.bipush 8, 2) := by decide +kernel
theorem dX2_fadesBy_55 : decode cX2_fadesBy 55 = .ok (.irem, 1) := by decide +kernel
theorem dX2_fadesBy_56 : decode cX2_fadesBy 56 = .ok (.iastore, 1) := by decide +kernel
theorem dX2_fadesBy_57 : decode cX2_fadesBy 57 = .ok (.aload_n 0, 1) := by decide +kernel
theorem dX2_fadesBy_58 : decode cX2_fadesBy 58 = .ok (.getfield 39, 3) := by decide +kernel
theorem dX2_fadesBy_61 : decode cX2_fadesBy 61 = .ok (.iconst 2, 1) := by decide +kernel
theorem dX2_fadesBy_62 : decode cX2_fadesBy 62 = .ok (.iload_n 1, 1) := by decide +kernel
theorem dX2_fadesBy_63 : decode cX2_fadesBy 63 = .ok (.bipush 8, 2) := by decide +kernel
theorem dX2_fadesBy_65 : decode cX2_fadesBy 65 = .ok (.idiv, 1) := by decide +kernel
theorem dX2_fadesBy_66 : decode cX2_fadesBy 66 = .ok (.iastore, 1) := by decide +kernel
theorem dX2_fadesBy_67 : decode cX2_fadesBy 67 = .ok (.aload_n 0, 1) := by decide +kernel
theorem dX2_fadesBy_68 : decode cX2_fadesBy 68 = .ok (.getfield 39, 3) := by decide +kernel
theorem dX2_fadesBy_71 : decode cX2_fadesBy 71 = .ok (.iconst 3, 1) := by decide +kernel
theorem dX2_fadesBy_72 : decode cX2_fadesBy 72 = .ok (.aload_n 0, 1) := by decide +kernel
theorem dX2_fadesBy_73 : decode cX2_fadesBy 73 = .ok (.getfield 12, 3) := by decide +kernel
theorem dX2_fadesBy_76 : decode cX2_fadesBy 76 = .ok (.iload_n 1, 1) := by decide +kernel
theorem dX2_fadesBy_77 : decode cX2_fadesBy 77 = .ok (.invokevirtual 132, 3) := by decide +kernel
theorem dX2_fadesBy_80 : decode cX2_fadesBy 80 = .ok (.iastore, 1) := by decide +kernel
theorem dX2_fadesBy_81 : decode cX2_fadesBy 81 = .ok (.aload_n 0, 1) := by decide +kernel
theorem dX2_fadesBy_82 : decode cX2_fadesBy 82 = .ok (.getfield 39, 3) := by decide +kernel
theorem dX2_fadesBy_85 : decode cX2_fadesBy 85 = .ok (.iconst 4, 1) := by decide +kernel
theorem dX2_fadesBy_86 : decode cX2_fadesBy 86 = .ok (.aload_n 0, 1) := by decide +kernel
theorem dX2_fadesBy_87 : decode cX2_fadesBy 87 = .ok (.getfield 12, 3) := by decide +kernel
theorem dX2_fadesBy_90 : decode cX2_fadesBy 90 = .ok (.getfield 76, 3) := by decide +kernel
theorem dX2_fadesBy_93 : decode cX2_fadesBy 93 = .ok (.iastore, 1) := by decide +kernel
theorem dX2_fadesBy_94 : decode cX2_fadesBy 94 = .ok (.aload_n 0, 1) := by decide +kernel
theorem dX2_fadesBy_95 : decode cX2_fadesBy 95 = .ok (.getfield 42, 3) := by decide +kernel
theorem dX2_fadesBy_98 : decode cX2_fadesBy 98 = .ok (.getfield 129, 3) := by decide +kernel
theorem dX2_fadesBy_101 : decode cX2_fadesBy 101 = .ok (.aload_n 0, 1) := by decide +kernel
theorem dX2_fadesBy_102 : decode cX2_fadesBy 102 = .ok (.getfield 39, 3) := by decide +kernel
theorem dX2_fadesBy_105 : decode cX2_fadesBy 105 = .ok (.invokevirtual 107, 3) := by decide +kernel
theorem dX2_fadesBy_108 : decode cX2_fadesBy 108 = .ok (.ireturn, 1) := by decide +kernel
theorem dX2_comingsOfAll_0 : decode cX2_comingsOfAll 0 = .ok (.iconst 0, 1) := by decide +kernel
theorem dX2_comingsOfAll_1 : decode cX2_comingsOfAll 1 = .ok (.istore_n 1, 1) := by decide +kernel
theorem dX2_comingsOfAll_2 : decode cX2_comingsOfAll 2 = .ok (.iconst 0, 1) := by decide +kernel
theorem dX2_comingsOfAll_3 : decode cX2_comingsOfAll 3 = .ok (.istore_n 2, 1) := by decide +kernel
theorem dX2_comingsOfAll_4 : decode cX2_comingsOfAll 4 = .ok (.iload_n 2, 1) := by decide +kernel
theorem dX2_comingsOfAll_5 : decode cX2_comingsOfAll 5 = .ok (.bipush 6, 2) := by decide +kernel
theorem dX2_comingsOfAll_7 : decode cX2_comingsOfAll 7 = .ok (.if_icmp .ge 18, 3) := by decide +kernel
theorem dX2_comingsOfAll_10 : decode cX2_comingsOfAll 10 = .ok (.iload_n 1, 1) := by decide +kernel
theorem dX2_comingsOfAll_11 : decode cX2_comingsOfAll 11 = .ok (.aload_n 0, 1) := by decide +kernel
theorem dX2_comingsOfAll_12 : decode cX2_comingsOfAll 12 = .ok (.getfield 32, 3) := by decide +kernel
theorem dX2_comingsOfAll_15 : decode cX2_comingsOfAll 15 = .ok (.iload_n 2, 1) := by decide +kernel
theorem dX2_comingsOfAll_16 : decode cX2_comingsOfAll 16 = .ok (.iaload, 1) := by decide +kernel
theorem dX2_comingsOfAll_17 : decode cX2_comingsOfAll 17 = .ok (.iadd, 1) := by decide +kernel
theorem dX2_comingsOfAll_18 : decode cX2_comingsOfAll 18 = .ok (.istore_n 1, 1) := by decide +kernel
theorem dX2_comingsOfAll_19 : decode cX2_comingsOfAll 19 = .ok (.iinc 2 1, 3) := by decide +kernel
theorem dX2_comingsOfAll_22 : decode cX2_comingsOfAll 22 = .ok (.goto (-18), 3) := by decide +kernel
theorem dX2_comingsOfAll_25 : decode cX2_comingsOfAll 25 = .ok (.iload_n 1, 1) := by decide +kernel
theorem dX2_comingsOfAll_26 : decode cX2_comingsOfAll 26 = .ok (.ireturn, 1) := by decide +kernel
theorem dX3_init_0 : decode cX3_init 0 = .ok (.aload_n 0, 1) := by decide +kernel
theorem dX3_init_1 : decode cX3_init 1 = .ok (.invokespecial 1, 3) := by decide +kernel
theorem dX3_init_4 : decode cX3_init 4 = .ok (.aload_n 0, 1) := by decide +kernel
theorem dX3_init_5 : decode cX3_init 5 = .ok (.iconst 0, 1) := by decide +kernel
theorem dX3_init_6 : decode cX3_init 6 = .ok (.putfield 7, 3) := by decide +kernel
theorem dX3_init_9 : decode cX3_init 9 = .ok (.return_, 1) := by decide +kernel
theorem dX3_draw_0 : decode cX3_draw 0 = .ok (.aload_n 0, 1) := by decide +kernel
theorem dX3_draw_1 : decode cX3_draw 1 = .ok (.aload_n 0, 1) := by decide +kernel
theorem dX3_draw_2 : decode cX3_draw 2 = .ok (.getfield 7, 3) := by decide +kernel
theorem dX3_draw_5 : decode cX3_draw 5 = .ok (.ldc 13, 2) := by decide +kernel
theorem dX3_draw_7 : decode cX3_draw 7 = .ok (.imul, 1) := by decide +kernel
theorem dX3_draw_8 : decode cX3_draw 8 = .ok (.sipush 12345, 3) := by decide +kernel
theorem dX3_draw_11 : decode cX3_draw 11 = .ok (.iadd, 1) := by decide +kernel
theorem dX3_draw_12 : decode cX3_draw 12 = .ok (.putfield 7, 3) := by decide +kernel
theorem dX3_draw_15 : decode cX3_draw 15 = .ok (.iload_n 1, 1) := by decide +kernel
theorem dX3_draw_16 : decode cX3_draw 16 = .ok (.ifCond .le 19, 3) := by decide +kernel
theorem dX3_draw_19 : decode cX3_draw 19 = .ok (.aload_n 0, 1) := by decide +kernel
theorem dX3_draw_20 : decode cX3_draw 20 = .ok (.getfield 7, 3) := by decide +kernel
theorem dX3_draw_23 : decode cX3_draw 23 = .ok (.bipush 16, 2) := by decide +kernel
theorem dX3_draw_25 : decode cX3_draw 25 = .ok (.iushr, 1) := by decide +kernel
theorem dX3_draw_26 : decode cX3_draw 26 = .ok (.sipush 32767, 3) := by decide +kernel
theorem dX3_draw_29 : decode cX3_draw 29 = .ok (.iand, 1) := by decide +kernel
theorem dX3_draw_30 : decode cX3_draw 30 = .ok (.iload_n 1, 1) := by decide +kernel
theorem dX3_draw_31 : decode cX3_draw 31 = .ok (.irem, 1) := by decide +kernel
theorem dX3_draw_32 : decode cX3_draw 32 = .ok (.goto 4, 3) := by decide +kernel
theorem dX3_draw_35 : decode cX3_draw 35 = .ok (.iconst 0, 1) := by decide +kernel
theorem dX3_draw_36 : decode cX3_draw 36 = .ok (.ireturn, 1) := by decide +kernel
theorem dX4_init_0 : decode cX4_init 0 = .ok (.aload_n 0, 1) := by decide +kernel
theorem dX4_init_1 : decode cX4_init 1 = .ok (.invokespecial 3, 3) := by decide +kernel
theorem dX4_init_4 : decode cX4_init 4 = .ok (.aload_n 0, 1) := by decide +kernel
theorem dX4_init_5 : decode cX4_init 5 = .ok (.iconst 0, 1) := by decide +kernel
theorem dX4_init_6 : decode cX4_init 6 = .ok (.putfield 9, 3) := by decide +kernel
theorem dX4_init_9 : decode cX4_init 9 = .ok (.aload_n 0, 1) := by decide +kernel
theorem dX4_init_10 : decode cX4_init 10 = .ok (.bipush 6, 2) := by decide +kernel
theorem dX4_init_12 : decode cX4_init 12 = .ok (.bipush 6, 2) := by decide +kernel
theorem dX4_init_14 : decode cX4_init 14 = .ok (.multianewarray 15 2, 4) := by decide +kernel
theorem dX4_init_18 : decode cX4_init 18 = .ok (.putfield 17, 3) := by decide +kernel
theorem dX4_init_21 : decode cX4_init 21 = .ok (.aload_n 0, 1) := by decide +kernel
theorem dX4_init_22 : decode cX4_init 22 = .ok (.bipush 7, 2) := by decide +kernel
theorem dX4_init_24 : decode cX4_init 24 = .ok (.bipush 64, 2) := by decide +kernel
theorem dX4_init_26 : decode cX4_init 26 = .ok (.multianewarray 15 2, 4) := by decide +kernel
theorem dX4_init_30 : decode cX4_init 30 = .ok (.putfield 20, 3) := by decide +kernel
theorem dX4_init_33 : decode cX4_init 33 = .ok (.return_, 1) := by decide +kernel
theorem dX4_weigh_0 : decode cX4_weigh 0 = .ok (.aload_n 0, 1) := by decide +kernel
theorem dX4_weigh_1 : decode cX4_weigh 1 = .ok (.iload_n 3, 1) := by decide +kernel
theorem dX4_weigh_2 : decode cX4_weigh 2 = .ok (.bipush 6, 2) := by decide +kernel
theorem dX4_weigh_4 : decode cX4_weigh 4 = .ok (.invokestatic 23, 3) := by decide +kernel
theorem dX4_weigh_7 : decode cX4_weigh 7 = .ok (.putfield 9, 3) := by decide +kernel
theorem dX4_weigh_10 : decode cX4_weigh 10 = .ok (.iconst 0, 1) := by decide +kernel
theorem dX4_weigh_11 : decode cX4_weigh 11 = .ok (.istore 4, 2) := by decide +kernel
theorem dX4_weigh_13 : decode cX4_weigh 13 = .ok (.iload 4, 2) := by decide +kernel
theorem dX4_weigh_15 : decode cX4_weigh 15 = .ok (.aload_n 0, 1) := by decide +kernel
theorem dX4_weigh_16 : decode cX4_weigh 16 = .ok (.getfield 9, 3) := by decide +kernel
theorem dX4_weigh_19 : decode cX4_weigh 19 = .ok (.if_icmp .ge 69, 3) := by decide +kernel
theorem dX4_weigh_22 : decode cX4_weigh 22 = .ok (.iconst 0, 1) := by decide +kernel
theorem dX4_weigh_23 : decode cX4_weigh 23 = .ok (.istore 5, 2) := by decide +kernel
theorem dX4_weigh_25 : decode cX4_weigh 25 = .ok (.iload 5, 2) := by decide +kernel
theorem dX4_weigh_27 : decode cX4_weigh 27 = .ok (.aload_n 0, 1) := by decide +kernel
theorem dX4_weigh_28 : decode cX4_weigh 28 = .ok (.getfield 9, 3) := by decide +kernel
theorem dX4_weigh_31 : decode cX4_weigh 31 = .ok (.if_icmp .ge 51, 3) := by decide +kernel
theorem dX4_weigh_34 : decode cX4_weigh 34 = .ok (.aload_n 2, 1) := by decide +kernel
theorem dX4_weigh_35 : decode cX4_weigh 35 = .ok (.getfield 29, 3) := by decide +kernel
theorem dX4_weigh_38 : decode cX4_weigh 38 = .ok (.iload 5, 2) := by decide +kernel
theorem dX4_weigh_40 : decode cX4_weigh 40 = .ok (.iaload, 1) := by decide +kernel
theorem dX4_weigh_41 : decode cX4_weigh 41 = .ok (.istore 6, 2) := by decide +kernel
theorem dX4_weigh_43 : decode cX4_weigh 43 = .ok (.aload_n 0, 1) := by decide +kernel
theorem dX4_weigh_44 : decode cX4_weigh 44 = .ok (.getfield 17, 3) := by decide +kernel
theorem dX4_weigh_47 : decode cX4_weigh 47 = .ok (.iload 4, 2) := by decide +kernel
theorem dX4_weigh_49 : decode cX4_weigh 49 = .ok (.aaload, 1) := by decide +kernel
theorem dX4_weigh_50 : decode cX4_weigh 50 = .ok (.iload 5, 2) := by decide +kernel
theorem dX4_weigh_52 : decode cX4_weigh 52 = .ok (.iload 6, 2) := by decide +kernel
theorem dX4_weigh_54 : decode cX4_weigh 54 = .ok (.iconst (-1), 1) := by decide +kernel
theorem dX4_weigh_55 : decode cX4_weigh 55 = .ok (.if_icmp .ne 7, 3) := by decide +kernel
theorem dX4_weigh_58 : decode cX4_weigh 58 = .ok (.iconst (-1), 1) := by decide +kernel
theorem dX4_weigh_59 : decode cX4_weigh 59 = .ok (.goto 16, 3) := by decide +kernel
theorem dX4_weigh_62 : decode cX4_weigh 62 = .ok (.aload_n 1, 1) := by decide +kernel
theorem dX4_weigh_63 : decode cX4_weigh 63 = .ok (.aload_n 2, 1) := by decide +kernel
theorem dX4_weigh_64 : decode cX4_weigh 64 = .ok (.getfield 35, 3) := by decide +kernel
theorem dX4_weigh_67 : decode cX4_weigh 67 = .ok (.iload 4, 2) := by decide +kernel
theorem dX4_weigh_69 : decode cX4_weigh 69 = .ok (.iaload, 1) := by decide +kernel
theorem dX4_weigh_70 : decode cX4_weigh 70 = .ok (.iload 6, 2) := by decide +kernel
theorem dX4_weigh_72 : decode cX4_weigh 72 = .ok (.invokevirtual 38, 3) := by decide +kernel
theorem dX4_weigh_75 : decode cX4_weigh 75 = .ok (.iastore, 1) := by decide +kernel
theorem dX4_weigh_76 : decode cX4_weigh 76 = .ok (.iinc 5 1, 3) := by decide +kernel
theorem dX4_weigh_79 : decode cX4_weigh 79 = .ok (.goto (-54), 3) := by decide +kernel
theorem dX4_weigh_82 : decode cX4_weigh 82 = .ok (.iinc 4 1, 3) := by decide +kernel
theorem dX4_weigh_85 : decode cX4_weigh 85 = .ok (.goto (-72), 3) := by decide +kernel
theorem dX4_weigh_88 : decode cX4_weigh 88 = .ok (.iconst 0, 1) := by decide +kernel
theorem dX4_weigh_89 : decode cX4_weigh 89 = .ok (.istore 4, 2) := by decide +kernel
theorem dX4_weigh_91 : decode cX4_weigh 91 = .ok (.iload 4, 2) := by decide +kernel
theorem dX4_weigh_93 : decode cX4_weigh 93 = .ok (.iconst 1, 1) := by decide +kernel
theorem dX4_weigh_94 : decode cX4_weigh 94 = .ok (.aload_n 0, 1) := by decide +kernel
theorem dX4_weigh_95 : decode cX4_weigh 95 = .ok (.getfield 9, 3) := by decide +kernel
theorem dX4_weigh_98 : decode cX4_weigh 98 = .ok (.ishl, 1) := by decide +kernel
theorem dX4_weigh_99 : decode cX4_weigh 99 = .ok (.if_icmp .ge 22, 3) := by decide +kernel
theorem dX4_weigh_102 : decode cX4_weigh 102 = .ok (.aload_n 0, 1) := by decide +kernel
theorem dX4_weigh_103 : decode cX4_weigh 103 = .ok (.getfield 20, 3) := by decide +kernel
theorem dX4_weigh_106 : decode cX4_weigh 106 = .ok (.aload_n 0, 1) := by decide +kernel
theorem dX4_weigh_107 : decode cX4_weigh 107 = .ok (.getfield 9, 3) := by decide +kernel
theorem dX4_weigh_110 : decode cX4_weigh 110 = .ok (.aaload, 1) := by decide +kernel
theorem dX4_weigh_111 : decode cX4_weigh 111 = .ok (.iload 4, 2) := by decide +kernel
theorem dX4_weigh_113 : decode cX4_weigh 113 = .ok (.iconst 0, 1) := by decide +kernel
theorem dX4_weigh_114 : decode cX4_weigh 114 = .ok (.iastore, 1) := by decide +kernel
theorem dX4_weigh_115 : decode cX4_weigh 115 = .ok (.iinc 4 1, 3) := by decide +kernel
theorem dX4_weigh_118 : decode cX4_weigh 118 = .ok (.goto (-27), 3) := by decide +kernel
theorem dX4_weigh_121 : decode cX4_weigh 121 = .ok (.aload_n 0, 1) := by decide +kernel
theorem dX4_weigh_122 : decode cX4_weigh 122 = .ok (.getfield 9, 3) := by decide +kernel
theorem dX4_weigh_125 : decode cX4_weigh 125 = .ok (.iconst 1, 1) := by decide +kernel
theorem dX4_weigh_126 : decode cX4_weigh 126 = .ok (.isub, 1) := by decide +kernel
theorem dX4_weigh_127 : decode cX4_weigh 127 = .ok (.istore 4, 2) := by decide +kernel
theorem dX4_weigh_129 : decode cX4_weigh 129 = .ok (.iload 4, 2) := by decide +kernel
theorem dX4_weigh_131 : decode cX4_weigh 131 = .ok (.ifCond .lt 47, 3) := by decide +kernel
theorem dX4_weigh_134 : decode cX4_weigh 134 = .ok (.iconst 0, 1) := by decide +kernel
theorem dX4_weigh_135 : decode cX4_weigh 135 = .ok (.istore 5, 2) := by decide +kernel
theorem dX4_weigh_137 : decode cX4_weigh 137 = .ok (.iload 5, 2) := by decide +kernel
theorem dX4_weigh_139 : decode cX4_weigh 139 = .ok (.iconst 1, 1) := by decide +kernel
theorem dX4_weigh_140 : decode cX4_weigh 140 = .ok (.aload_n 0, 1) := by decide +kernel
theorem dX4_weigh_141 : decode cX4_weigh 141 = .ok (.getfield 9, 3) := by decide +kernel
theorem dX4_weigh_144 : decode cX4_weigh 144 = .ok (.ishl, 1) := by decide +kernel
theorem dX4_weigh_145 : decode cX4_weigh 145 = .ok (.if_icmp .ge 27, 3) := by decide +kernel
theorem dX4_weigh_148 : decode cX4_weigh 148 = .ok (.aload_n 0, 1) := by decide +kernel
theorem dX4_weigh_149 : decode cX4_weigh 149 = .ok (.getfield 20, 3) := by decide +kernel
theorem dX4_weigh_152 : decode cX4_weigh 152 = .ok (.iload 4, 2) := by decide +kernel
theorem dX4_weigh_154 : decode cX4_weigh 154 = .ok (.aaload, 1) := by decide +kernel
theorem dX4_weigh_155 : decode cX4_weigh 155 = .ok (.iload 5, 2) := by decide +kernel
theorem dX4_weigh_157 : decode cX4_weigh 157 = .ok (.aload_n 0, 1) := by decide +kernel
theorem dX4_weigh_158 : decode cX4_weigh 158 = .ok (.iload 4, 2) := by decide +kernel
theorem dX4_weigh_160 : decode cX4_weigh 160 = .ok (.iload 5, 2) := by decide +kernel
theorem dX4_weigh_162 : decode cX4_weigh 162 = .ok (.invokevirtual 42, 3) := by decide +kernel
theorem dX4_weigh_165 : decode cX4_weigh 165 = .ok (.iastore, 1) := by decide +kernel
theorem dX4_weigh_166 : decode cX4_weigh 166 = .ok (.iinc 5 1, 3) := by decide +kernel
theorem dX4_weigh_169 : decode cX4_weigh 169 = .ok (.goto (-32), 3) := by decide +kernel
theorem dX4_weigh_172 : decode cX4_weigh 172 = .ok (.iinc 4 (-1), 3) := by decide +kernel
theorem dX4_weigh_175 : decode cX4_weigh 175 = .ok (.goto (-46), 3) := by decide +kernel
theorem dX4_weigh_178 : decode cX4_weigh 178 = .ok (.return_, 1) := by decide +kernel
theorem dX4_bestOf_0 : decode cX4_bestOf 0 = .ok (.aload_n 0, 1) := by decide +kernel
theorem dX4_bestOf_1 : decode cX4_bestOf 1 = .ok (.getfield 20, 3) := by decide +kernel
theorem dX4_bestOf_4 : decode cX4_bestOf 4 = .ok (.iload_n 1, 1) := by decide +kernel
theorem dX4_bestOf_5 : decode cX4_bestOf 5 = .ok (.iconst 1, 1) := by decide +kernel
theorem dX4_bestOf_6 : decode cX4_bestOf 6 = .ok (.iadd, 1) := by decide +kernel
theorem dX4_bestOf_7 : decode cX4_bestOf 7 = .ok (.aaload, 1) := by decide +kernel
theorem dX4_bestOf_8 : decode cX4_bestOf 8 = .ok (.iload_n 2, 1) := by decide +kernel
theorem dX4_bestOf_9 : decode cX4_bestOf 9 = .ok (.iaload, 1) := by decide +kernel
theorem dX4_bestOf_10 : decode cX4_bestOf 10 = .ok (.istore_n 3, 1) := by decide +kernel
theorem dX4_bestOf_11 : decode cX4_bestOf 11 = .ok (.iconst 0, 1) := by decide +kernel
theorem dX4_bestOf_12 : decode cX4_bestOf 12 = .ok (.istore 4, 2) := by decide +kernel
theorem dX4_bestOf_14 : decode cX4_bestOf 14 = .ok (.iload 4, 2) := by decide +kernel
theorem dX4_bestOf_16 : decode cX4_bestOf 16 = .ok (.aload_n 0, 1) := by decide +kernel
theorem dX4_bestOf_17 : decode cX4_bestOf 17 = .ok (.getfield 9, 3) := by decide +kernel
theorem dX4_bestOf_20 : decode cX4_bestOf 20 = .ok (.if_icmp .ge 33, 3) := by decide +kernel
theorem dX4_bestOf_23 : decode cX4_bestOf 23 = .ok (.aload_n 0, 1) := by decide +kernel
theorem dX4_bestOf_24 : decode cX4_bestOf 24 = .ok (.iload_n 1, 1) := by decide +kernel
theorem dX4_bestOf_25 : decode cX4_bestOf 25 = .ok (.iload 4, 2) := by decide +kernel
theorem dX4_bestOf_27 : decode cX4_bestOf 27 = .ok (.iload_n 2, 1) := by decide +kernel
theorem dX4_bestOf_28 : decode cX4_bestOf 28 = .ok (.invokevirtual 45, 3) := by decide +kernel
theorem dX4_bestOf_31 : decode cX4_bestOf 31 = .ok (.ifCond .eq 16, 3) := by decide +kernel
theorem dX4_bestOf_34 : decode cX4_bestOf 34 = .ok (.iload_n 3, 1) := by decide +kernel
theorem dX4_bestOf_35 : decode cX4_bestOf 35 = .ok (.aload_n 0, 1) := by decide +kernel
theorem dX4_bestOf_36 : decode cX4_bestOf 36 = .ok (.iload_n 1, 1) := by decide +kernel
theorem dX4_bestOf_37 : decode cX4_bestOf 37 = .ok (.iload 4, 2) := by decide +kernel
theorem dX4_bestOf_39 : decode cX4_bestOf 39 = .ok (.iload_n 2, 1) := by decide +kernel
theorem dX4_bestOf_40 : decode cX4_bestOf 40 = .ok (.invokevirtual 49, 3) := by decide +kernel
theorem dX4_bestOf_43 : decode cX4_bestOf 43 = .ok (.invokestatic 53, 3) := by decide +kernel
theorem dX4_bestOf_46 : decode cX4_bestOf 46 = .ok (.istore_n 3, 1) := by decide +kernel
theorem dX4_bestOf_47 : decode cX4_bestOf 47 = .ok (.iinc 4 1, 3) := by decide +kernel
theorem dX4_bestOf_50 : decode cX4_bestOf 50 = .ok (.goto (-36), 3) := by decide +kernel
theorem dX4_bestOf_53 : decode cX4_bestOf 53 = .ok (.iload_n 3, 1) := by decide +kernel
theorem dX4_bestOf_54 : decode cX4_bestOf 54 = .ok (.ireturn, 1) := by decide +kernel
theorem dX4_isFree_0 : decode cX4_isFree 0 = .ok (.aload_n 0, 1) := by decide +kernel
theorem dX4_isFree_1 : decode cX4_isFree 1 = .ok (.getfield 17, 3) := by decide +kernel
theorem dX4_isFree_4 : decode cX4_isFree 4 = .ok (.iload_n 1, 1) := by decide +kernel
theorem dX4_isFree_5 : decode cX4_isFree 5 = .ok (.aaload, 1) := by decide +kernel
theorem dX4_isFree_6 : decode cX4_isFree 6 = .ok (.iload_n 2, 1) := by decide +kernel
theorem dX4_isFree_7 : decode cX4_isFree 7 = .ok (.iaload, 1) := by decide +kernel
theorem dX4_isFree_8 : decode cX4_isFree 8 = .ok (.iconst (-1), 1) := by decide +kernel
theorem dX4_isFree_9 : decode cX4_isFree 9 = .ok (.if_icmp .eq 15, 3) := by decide +kernel
theorem dX4_isFree_12 : decode cX4_isFree 12 = .ok (.iload_n 3, 1) := by decide +kernel
theorem dX4_isFree_13 : decode cX4_isFree 13 = .ok (.iload_n 2, 1) := by decide +kernel
theorem dX4_isFree_14 : decode cX4_isFree 14 = .ok (.iushr, 1) := by decide +kernel
theorem dX4_isFree_15 : decode cX4_isFree 15 = .ok (.iconst 1, 1) := by decide +kernel
theorem dX4_isFree_16 : decode cX4_isFree 16 = .ok (.iand, 1) := by decide +kernel
theorem dX4_isFree_17 : decode cX4_isFree 17 = .ok (.ifCond .ne 7, 3) := by decide +kernel
theorem dX4_isFree_20 : decode cX4_isFree 20 = .ok (.iconst 1, 1) := by decide +kernel
theorem dX4_isFree_21 : decode cX4_isFree 21 = .ok (.goto 4, 3) := by decide +kernel
theorem dX4_isFree_24 : decode cX4_isFree 24 = .ok (.iconst 0, 1) := by decide +kernel
theorem dX4_isFree_25 : decode cX4_isFree 25 = .ok (.ireturn, 1) := by decide +kernel
theorem dX4_worthOf_0 : decode cX4_worthOf 0 = .ok (.sipush 1000, 3) := by decide +kernel
theorem dX4_worthOf_3 : decode cX4_worthOf 3 = .ok (.aload_n 0, 1) := by decide +kernel
theorem dX4_worthOf_4 : decode cX4_worthOf 4 = .ok (.getfield 17, 3) := by decide +kernel
theorem dX4_worthOf_7 : decode cX4_worthOf 7 = .ok (.iload_n 1, 1) := by decide +kernel
theorem dX4_worthOf_8 : decode cX4_worthOf 8 = .ok (.aaload, 1) := by decide +kernel
theorem dX4_worthOf_9 : decode cX4_worthOf 9 = .ok (.iload_n 2, 1) := by decide +kernel
theorem dX4_worthOf_10 : decode cX4_worthOf 10 = .ok (.iaload, 1) := by decide +kernel
theorem dX4_worthOf_11 : decode cX4_worthOf 11 = .ok (.isub, 1) := by decide +kernel
theorem dX4_worthOf_12 : decode cX4_worthOf 12 = .ok (.aload_n 0, 1) := by decide +kernel
theorem dX4_worthOf_13 : decode cX4_worthOf 13 = .ok (.getfield 20, 3) := by decide +kernel
theorem dX4_worthOf_16 : decode cX4_worthOf 16 = .ok (.iload_n 1, 1) := by decide +kernel
theorem dX4_worthOf_17 : decode cX4_worthOf 17 = .ok (.iconst 1, 1) := by decide +kernel
theorem dX4_worthOf_18 : decode cX4_worthOf 18 = .ok (.iadd, 1) := by decide +kernel
theorem dX4_worthOf_19 : decode cX4_worthOf 19 = .ok (.aaload, 1) := by decide +kernel
theorem dX4_worthOf_20 : decode cX4_worthOf 20 = .ok (.iload_n 3, 1) := by decide +kernel
theorem dX4_worthOf_21 : decode cX4_worthOf 21 = .ok (.iconst 1, 1) := by decide +kernel
theorem dX4_worthOf_22 : decode cX4_worthOf 22 = .ok (.iload_n 2, 1) := by decide +kernel
theorem dX4_worthOf_23 : decode cX4_worthOf 23 = .ok (.ishl, 1) := by decide +kernel
theorem dX4_worthOf_24 : decode cX4_worthOf 24 = .ok (.ior, 1) := by decide +kernel
theorem dX4_worthOf_25 : decode cX4_worthOf 25 = .ok (.iaload, 1) := by decide +kernel
theorem dX4_worthOf_26 : decode cX4_worthOf 26 = .ok (.iadd, 1) := by decide +kernel
theorem dX4_worthOf_27 : decode cX4_worthOf 27 = .ok (.ireturn, 1) := by decide +kernel
theorem dX4_many_0 : decode cX4_many 0 = .ok (.aload_n 0, 1) := by decide +kernel
theorem dX4_many_1 : decode cX4_many 1 = .ok (.getfield 20, 3) := by decide +kernel
theorem dX4_many_4 : decode cX4_many 4 = .ok (.iconst 0, 1) := by decide +kernel
theorem dX4_many_5 : decode cX4_many 5 = .ok (.aaload, 1) := by decide +kernel
theorem dX4_many_6 : decode cX4_many 6 = .ok (.iconst 0, 1) := by decide +kernel
theorem dX4_many_7 : decode cX4_many 7 = .ok (.iaload, 1) := by decide +kernel
theorem dX4_many_8 : decode cX4_many 8 = .ok (.sipush 1000, 3) := by decide +kernel
theorem dX4_many_11 : decode cX4_many 11 = .ok (.iadd, 1) := by decide +kernel
theorem dX4_many_12 : decode cX4_many 12 = .ok (.iconst 1, 1) := by decide +kernel
theorem dX4_many_13 : decode cX4_many 13 = .ok (.isub, 1) := by decide +kernel
theorem dX4_many_14 : decode cX4_many 14 = .ok (.sipush 1000, 3) := by decide +kernel
theorem dX4_many_17 : decode cX4_many 17 = .ok (.idiv, 1) := by decide +kernel
theorem dX4_many_18 : decode cX4_many 18 = .ok (.ireturn, 1) := by decide +kernel
theorem dX4_farInAll_0 : decode cX4_farInAll 0 = .ok (.aload_n 0, 1) := by decide +kernel
theorem dX4_farInAll_1 : decode cX4_farInAll 1 = .ok (.invokevirtual 56, 3) := by decide +kernel
theorem dX4_farInAll_4 : decode cX4_farInAll 4 = .ok (.sipush 1000, 3) := by decide +kernel
theorem dX4_farInAll_7 : decode cX4_farInAll 7 = .ok (.imul, 1) := by decide +kernel
theorem dX4_farInAll_8 : decode cX4_farInAll 8 = .ok (.aload_n 0, 1) := by decide +kernel
theorem dX4_farInAll_9 : decode cX4_farInAll 9 = .ok (.getfield 20, 3) := by decide +kernel
theorem dX4_farInAll_12 : decode cX4_farInAll 12 = .ok (.iconst 0, 1) := by decide +kernel
theorem dX4_farInAll_13 : decode cX4_farInAll 13 = .ok (.aaload, 1) := by decide +kernel
theorem dX4_farInAll_14 : decode cX4_farInAll 14 = .ok (.iconst 0, 1) := by decide +kernel
theorem dX4_farInAll_15 : decode cX4_farInAll 15 = .ok (.iaload, 1) := by decide +kernel
theorem dX4_farInAll_16 : decode cX4_farInAll 16 = .ok (.isub, 1) := by decide +kernel
theorem dX4_farInAll_17 : decode cX4_farInAll 17 = .ok (.ireturn, 1) := by decide +kernel
theorem dX4_takenBy_0 : decode cX4_takenBy 0 = .ok (.iconst 0, 1) := by decide +kernel
theorem dX4_takenBy_1 : decode cX4_takenBy 1 = .ok (.istore_n 2, 1) := by decide +kernel
theorem dX4_takenBy_2 : decode cX4_takenBy 2 = .ok (.iconst (-1), 1) := by decide +kernel
theorem dX4_takenBy_3 : decode cX4_takenBy 3 = .ok (.istore_n 3, 1) := by decide +kernel
theorem dX4_takenBy_4 : decode cX4_takenBy 4 = .ok (.iconst 0, 1) := by decide +kernel
theorem dX4_takenBy_5 : decode cX4_takenBy 5 = .ok (.istore 4, 2) := by decide +kernel
theorem dX4_takenBy_7 : decode cX4_takenBy 7 = .ok (.iload 4, 2) := by decide +kernel
theorem dX4_takenBy_9 : decode cX4_takenBy 9 = .ok (.iload_n 1, 1) := by decide +kernel
theorem dX4_takenBy_10 : decode cX4_takenBy 10 = .ok (.if_icmp .gt 41, 3) := by decide +kernel
theorem dX4_takenBy_13 : decode cX4_takenBy 13 = .ok (.iload 4, 2) := by decide +kernel
theorem dX4_takenBy_15 : decode cX4_takenBy 15 = .ok (.aload_n 0, 1) := by decide +kernel
theorem dX4_takenBy_16 : decode cX4_takenBy 16 = .ok (.getfield 9, 3) := by decide +kernel
theorem dX4_takenBy_19 : decode cX4_takenBy 19 = .ok (.if_icmp .ge 32, 3) := by decide +kernel
theorem dX4_takenBy_22 : decode cX4_takenBy 22 = .ok (.aload_n 0, 1) := by decide +kernel
theorem dX4_takenBy_23 : decode cX4_takenBy 23 = .ok (.iload 4, 2) := by decide +kernel
theorem dX4_takenBy_25 : decode cX4_takenBy 25 = .ok (.iload_n 2, 1) := by decide +kernel
theorem dX4_takenBy_26 : decode cX4_takenBy 26 = .ok (.invokevirtual 60, 3) := by decide +kernel
theorem dX4_takenBy_29 : decode cX4_takenBy 29 = .ok (.istore_n 3, 1) := by decide +kernel
theorem dX4_takenBy_30 : decode cX4_takenBy 30 = .ok (.iload_n 2, 1) := by decide +kernel
theorem dX4_takenBy_31 : decode cX4_takenBy 31 = .ok (.iload_n 3, 1) := by decide +kernel
theorem dX4_takenBy_32 : decode cX4_takenBy 32 = .ok (.iconst (-1), 1) := by decide +kernel
theorem dX4_takenBy_33 : decode cX4_takenBy 33 = .ok (.if_icmp .ne 7, 3) := by decide +kernel
theorem dX4_takenBy_36 : decode cX4_takenBy 36 = .ok (.iconst 0, 1) := by decide +kernel
theorem dX4_takenBy_37 : decode cX4_takenBy 37 = .ok (.goto 6, 3) := by decide +kernel
theorem dX4_takenBy_40 : decode cX4_takenBy 40 = .ok (.iconst 1, 1) := by decide +kernel
theorem dX4_takenBy_41 : decode cX4_takenBy 41 = .ok (.iload_n 3, 1) := by decide +kernel
theorem dX4_takenBy_42 : decode cX4_takenBy 42 = .ok (.ishl, 1) := by decide +kernel
theorem dX4_takenBy_43 : decode cX4_takenBy 43 = .ok (.ior, 1) := by decide +kernel
theorem dX4_takenBy_44 : decode cX4_takenBy 44 = .ok (.istore_n 2, 1) := by decide +kernel
theorem dX4_takenBy_45 : decode cX4_takenBy 45 = .ok (.iinc 4 1, 3) := by decide +kernel
theorem dX4_takenBy_48 : decode cX4_takenBy 48 = .ok (.goto (-41), 3) := by decide +kernel
theorem dX4_takenBy_51 : decode cX4_takenBy 51 = .ok (.iload_n 3, 1) := by decide +kernel
theorem dX4_takenBy_52 : decode cX4_takenBy 52 = .ok (.ireturn, 1) := by decide +kernel
theorem dX4_firstChoice_0 : decode cX4_firstChoice 0 = .ok (.iconst 0, 1) := by decide +kernel
theorem dX4_firstChoice_1 : decode cX4_firstChoice 1 = .ok (.istore_n 3, 1) := by decide +kernel
theorem dX4_firstChoice_2 : decode cX4_firstChoice 2 = .ok (.iload_n 3, 1) := by decide +kernel
theorem dX4_firstChoice_3 : decode cX4_firstChoice 3 = .ok (.aload_n 0, 1) := by decide +kernel
theorem dX4_firstChoice_4 : decode cX4_firstChoice 4 = .ok (.getfield 9, 3) := by decide +kernel
theorem dX4_firstChoice_7 : decode cX4_firstChoice 7 = .ok (.if_icmp .ge 39, 3) := by decide +kernel
theorem dX4_firstChoice_10 : decode cX4_firstChoice 10 = .ok (.aload_n 0, 1) := by decide +kernel
theorem dX4_firstChoice_11 : decode cX4_firstChoice 11 = .ok (.iload_n 1, 1) := by decide +kernel
theorem dX4_firstChoice_12 : decode cX4_firstChoice 12 = .ok (.iload_n 3, 1) := by decide +kernel
theorem dX4_firstChoice_13 : decode cX4_firstChoice 13 = .ok (.iload_n 2, 1) := by decide +kernel
theorem dX4_firstChoice_14 : decode cX4_firstChoice 14 = .ok (.invokevirtual 45, 3) := by decide +kernel
theorem dX4_firstChoice_17 : decode cX4_firstChoice 17 = .ok (.ifCond .eq 23, 3) := by decide +kernel
theorem dX4_firstChoice_20 : decode cX4_firstChoice 20 = .ok (.aload_n 0, 1) := by decide +kernel
theorem dX4_firstChoice_21 : decode cX4_firstChoice 21 = .ok (.iload_n 1, 1) := by decide +kernel
theorem dX4_firstChoice_22 : decode cX4_firstChoice 22 = .ok (.iload_n 3, 1) := by decide +kernel
theorem dX4_firstChoice_23 : decode cX4_firstChoice 23 = .ok (.iload_n 2, 1) := by decide +kernel
theorem dX4_firstChoice_24 : decode cX4_firstChoice 24 = .ok (.invokevirtual 49, 3) := by decide +kernel
theorem dX4_firstChoice_27 : decode cX4_firstChoice 27 = .ok (.aload_n 0, 1) := by decide +kernel
theorem dX4_firstChoice_28 : decode cX4_firstChoice 28 = .ok (.getfield 20, 3) := by decide +kernel
theorem dX4_firstChoice_31 : decode cX4_firstChoice 31 = .ok (.iload_n 1, 1) := by decide +kernel
theorem dX4_firstChoice_32 : decode cX4_firstChoice 32 = .ok (.aaload, 1) := by decide +kernel
theorem dX4_firstChoice_33 : decode cX4_firstChoice 33 = .ok (.iload_n 2, 1) := by decide +kernel
theorem dX4_firstChoice_34 : decode cX4_firstChoice 34 = .ok (.iaload, 1) := by decide +kernel
theorem dX4_firstChoice_35 : decode cX4_firstChoice 35 = .ok (.if_icmp .ne 5, 3) := by decide +kernel
theorem dX4_firstChoice_38 : decode cX4_firstChoice 38 = .ok (.iload_n 3, 1) := by decide +kernel
theorem dX4_firstChoice_39 : decode cX4_firstChoice 39 = .ok (.ireturn, 1) := by decide +kernel
theorem dX4_firstChoice_40 : decode cX4_firstChoice 40 = .ok (.iinc 3 1, 3) := by decide +kernel
theorem dX4_firstChoice_43 : decode cX4_firstChoice 43 = .ok (.goto (-41), 3) := by decide +kernel
theorem dX4_firstChoice_46 : decode cX4_firstChoice 46 = .ok (.iconst (-1), 1) := by decide +kernel
theorem dX4_firstChoice_47 : decode cX4_firstChoice 47 = .ok (.ireturn, 1) := by decide +kernel
theorem dX5_init_0 : decode cX5_init 0 = .ok (.aload_n 0, 1) := by decide +kernel
theorem dX5_init_1 : decode cX5_init 1 = .ok (.invokespecial 3, 3) := by decide +kernel
theorem dX5_init_4 : decode cX5_init 4 = .ok (.aload_n 0, 1) := by decide +kernel
theorem dX5_init_5 : decode cX5_init 5 = .ok (.lconst 0, 1) := by decide +kernel
theorem dX5_init_6 : decode cX5_init 6 = .ok (.putfield 9, 3) := by decide +kernel
theorem dX5_init_9 : decode cX5_init 9 = .ok (.aload_n 0, 1) := by decide +kernel
theorem dX5_init_10 : decode cX5_init 10 = .ok (.lconst 0, 1) := by decide +kernel
theorem dX5_init_11 : decode cX5_init 11 = .ok (.putfield 15, 3) := by decide +kernel
theorem dX5_init_14 : decode cX5_init 14 = .ok (.aload_n 0, 1) := by decide +kernel
theorem dX5_init_15 : decode cX5_init 15 = .ok (.lconst 0, 1) := by decide +kernel
theorem dX5_init_16 : decode cX5_init 16 = .ok (.putfield 18, 3) := by decide +kernel
theorem dX5_init_19 : decode cX5_init 19 = .ok (.aload_n 0, 1) := by decide +kernel
theorem dX5_init_20 : decode cX5_init 20 = .ok (.bipush 49, 2) := by decide +kernel
theorem dX5_init_22 : decode cX5_init 22 = .ok (.newarray .long, 2) := by decide +kernel
theorem dX5_init_24 : decode cX5_init 24 = .ok (.putfield 21, 3) := by decide +kernel
theorem dX5_init_27 : decode cX5_init 27 = .ok (.aload_n 0, 1) := by decide +kernel
theorem dX5_init_28 : decode cX5_init 28 = .ok (.bipush 48, 2) := by decide +kernel
theorem dX5_init_30 : decode cX5_init 30 = .ok (.newarray .int, 2) := by decide +kernel
theorem dX5_init_32 : decode cX5_init 32 = .ok (.putfield 25, 3) := by decide +kernel
theorem dX5_init_35 : decode cX5_init 35 = .ok (.return_, 1) := by decide +kernel
theorem dX5_lay_0 : decode cX5_lay 0 = .ok (.aload_n 0, 1) := by decide +kernel
theorem dX5_lay_1 : decode cX5_lay 1 = .ok (.aload_n 1, 1) := by decide +kernel
theorem dX5_lay_2 : decode cX5_lay 2 = .ok (.getfield 29, 3) := by decide +kernel
theorem dX5_lay_5 : decode cX5_lay 5 = .ok (.putfield 9, 3) := by decide +kernel
theorem dX5_lay_8 : decode cX5_lay 8 = .ok (.aload_n 0, 1) := by decide +kernel
theorem dX5_lay_9 : decode cX5_lay 9 = .ok (.aload_n 2, 1) := by decide +kernel
theorem dX5_lay_10 : decode cX5_lay 10 = .ok (.getfield 32, 3) := by decide +kernel
theorem dX5_lay_13 : decode cX5_lay 13 = .ok (.putfield 15, 3) := by decide +kernel
theorem dX5_lay_16 : decode cX5_lay 16 = .ok (.aload_n 0, 1) := by decide +kernel
theorem dX5_lay_17 : decode cX5_lay 17 = .ok (.aload_n 2, 1) := by decide +kernel
theorem dX5_lay_18 : decode cX5_lay 18 = .ok (.getfield 35, 3) := by decide +kernel
theorem dX5_lay_21 : decode cX5_lay 21 = .ok (.putfield 18, 3) := by decide +kernel
theorem dX5_lay_24 : decode cX5_lay 24 = .ok (.return_, 1) := by decide +kernel
theorem dX5_beside_0 : decode cX5_beside 0 = .ok (.lload_n 1, 1) := by decide +kernel
theorem dX5_beside_1 : decode cX5_beside 1 = .ok (.iconst 1, 1) := by decide +kernel
theorem dX5_beside_2 : decode cX5_beside 2 = .ok (.lshl, 1) := by decide +kernel
theorem dX5_beside_3 : decode cX5_beside 3 = .ok (.ldc2_w 36, 3) := by decide +kernel
theorem dX5_beside_6 : decode cX5_beside 6 = .ok (.land, 1) := by decide +kernel
theorem dX5_beside_7 : decode cX5_beside 7 = .ok (.lstore_n 3, 1) := by decide +kernel
theorem dX5_beside_8 : decode cX5_beside 8 = .ok (.lload_n 1, 1) := by decide +kernel
theorem dX5_beside_9 : decode cX5_beside 9 = .ok (.iconst 1, 1) := by decide +kernel
theorem dX5_beside_10 : decode cX5_beside 10 = .ok (.lushr, 1) := by decide +kernel
theorem dX5_beside_11 : decode cX5_beside 11 = .ok (.ldc2_w 38, 3) := by decide +kernel
theorem dX5_beside_14 : decode cX5_beside 14 = .ok (.land, 1) := by decide +kernel
theorem dX5_beside_15 : decode cX5_beside 15 = .ok (.lstore 5, 2) := by decide +kernel
theorem dX5_beside_17 : decode cX5_beside 17 = .ok (.lload_n 1, 1) := by decide +kernel
theorem dX5_beside_18 : decode cX5_beside 18 = .ok (.aload_n 0, 1) := by decide +kernel
theorem dX5_beside_19 : decode cX5_beside 19 = .ok (.getfield 18, 3) := by decide +kernel
theorem dX5_beside_22 : decode cX5_beside 22 = .ok (.land, 1) := by decide +kernel
theorem dX5_beside_23 : decode cX5_beside 23 = .ok (.bipush 8, 2) := by decide +kernel
theorem dX5_beside_25 : decode cX5_beside 25 = .ok (.lshl, 1) := by decide +kernel
theorem dX5_beside_26 : decode cX5_beside 26 = .ok (.lstore 7, 2) := by decide +kernel
theorem dX5_beside_28 : decode cX5_beside 28 = .ok (.lload_n 1, 1) := by decide +kernel
theorem dX5_beside_29 : decode cX5_beside 29 = .ok (.bipush 8, 2) := by decide +kernel
theorem dX5_beside_31 : decode cX5_beside 31 = .ok (.lushr, 1) := by decide +kernel
theorem dX5_beside_32 : decode cX5_beside 32 = .ok (.aload_n 0, 1) := by decide +kernel
theorem dX5_beside_33 : decode cX5_beside 33 = .ok (.getfield 18, 3) := by decide +kernel
theorem dX5_beside_36 : decode cX5_beside 36 = .ok (.land, 1) := by decide +kernel
theorem dX5_beside_37 : decode cX5_beside 37 = .ok (.lstore 9, 2) := by decide +kernel
theorem dX5_beside_39 : decode cX5_beside 39 = .ok (.lload_n 3, 1) := by decide +kernel
theorem dX5_beside_40 : decode cX5_beside 40 = .ok (.lload 5, 2) := by decide +kernel
theorem dX5_beside_42 : decode cX5_beside 42 = .ok (.lor, 1) := by decide +kernel
theorem dX5_beside_43 : decode cX5_beside 43 = .ok (.lload 7, 2) := by decide +kernel
theorem dX5_beside_45 : decode cX5_beside 45 = .ok (.lor, 1) := by decide +kernel
theorem dX5_beside_46 : decode cX5_beside 46 = .ok (.lload 9, 2) := by decide +kernel
theorem dX5_beside_48 : decode cX5_beside 48 = .ok (.lor, 1) := by decide +kernel
theorem dX5_beside_49 : decode cX5_beside 49 = .ok (.aload_n 0, 1) := by decide +kernel
theorem dX5_beside_50 : decode cX5_beside 50 = .ok (.getfield 9, 3) := by decide +kernel
theorem dX5_beside_53 : decode cX5_beside 53 = .ok (.land, 1) := by decide +kernel
theorem dX5_beside_54 : decode cX5_beside 54 = .ok (.lreturn, 1) := by decide +kernel
theorem dX5_far_0 : decode cX5_far 0 = .ok (.iload_n 2, 1) := by decide +kernel
theorem dX5_far_1 : decode cX5_far 1 = .ok (.invokestatic 40, 3) := by decide +kernel
theorem dX5_far_4 : decode cX5_far 4 = .ok (.lstore_n 3, 1) := by decide +kernel
theorem dX5_far_5 : decode cX5_far 5 = .ok (.aload_n 0, 1) := by decide +kernel
theorem dX5_far_6 : decode cX5_far 6 = .ok (.getfield 21, 3) := by decide +kernel
theorem dX5_far_9 : decode cX5_far 9 = .ok (.iconst 0, 1) := by decide +kernel
theorem dX5_far_10 : decode cX5_far 10 = .ok (.lload_n 3, 1) := by decide +kernel
theorem dX5_far_11 : decode cX5_far 11 = .ok (.lastore, 1) := by decide +kernel
theorem dX5_far_12 : decode cX5_far 12 = .ok (.iconst 0, 1) := by decide +kernel
theorem dX5_far_13 : decode cX5_far 13 = .ok (.istore 5, 2) := by decide +kernel
theorem dX5_far_15 : decode cX5_far 15 = .ok (.iload 5, 2) := by decide +kernel
theorem dX5_far_17 : decode cX5_far 17 = .ok (.bipush 48, 2) := by decide +kernel
theorem dX5_far_19 : decode cX5_far 19 = .ok (.if_icmp .ge 78, 3) := by decide +kernel
theorem dX5_far_22 : decode cX5_far 22 = .ok (.aload_n 0, 1) := by decide +kernel
theorem dX5_far_23 : decode cX5_far 23 = .ok (.getfield 21, 3) := by decide +kernel
theorem dX5_far_26 : decode cX5_far 26 = .ok (.iload 5, 2) := by decide +kernel
theorem dX5_far_28 : decode cX5_far 28 = .ok (.laload, 1) := by decide +kernel
theorem dX5_far_29 : decode cX5_far 29 = .ok (.iload_n 1, 1) := by decide +kernel
theorem dX5_far_30 : decode cX5_far 30 = .ok (.invokestatic 40, 3) := by decide +kernel
theorem dX5_far_33 : decode cX5_far 33 = .ok (.land, 1) := by decide +kernel
theorem dX5_far_34 : decode cX5_far 34 = .ok (.lconst 0, 1) := by decide +kernel
theorem dX5_far_35 : decode cX5_far 35 = .ok (.lcmp, 1) := by decide +kernel
theorem dX5_far_36 : decode cX5_far 36 = .ok (.ifCond .eq 6, 3) := by decide +kernel
theorem dX5_far_39 : decode cX5_far 39 = .ok (.iload 5, 2) := by decide +kernel
theorem dX5_far_41 : decode cX5_far 41 = .ok (.ireturn, 1) := by decide +kernel
theorem dX5_far_42 : decode cX5_far 42 = .ok (.aload_n 0, 1) := by decide +kernel
theorem dX5_far_43 : decode cX5_far 43 = .ok (.aload_n 0, 1) := by decide +kernel
theorem dX5_far_44 : decode cX5_far 44 = .ok (.getfield 21, 3) := by decide +kernel
theorem dX5_far_47 : decode cX5_far 47 = .ok (.iload 5, 2) := by decide +kernel
theorem dX5_far_49 : decode cX5_far 49 = .ok (.laload, 1) := by decide +kernel
theorem dX5_far_50 : decode cX5_far 50 = .ok (.aload_n 0, 1) := by decide +kernel
theorem dX5_far_51 : decode cX5_far 51 = .ok (.getfield 15, 3) := by decide +kernel
theorem dX5_far_54 : decode cX5_far 54 = .ok (.land, 1) := by decide +kernel
theorem dX5_far_55 : decode cX5_far 55 = .ok (.invokevirtual 44, 3) := by decide +kernel
theorem dX5_far_58 : decode cX5_far 58 = .ok (.lload_n 3, 1) := by decide +kernel
theorem dX5_far_59 : decode cX5_far 59 = .ok (.ldc2_w 48, 3) := by decide +kernel
theorem dX5_far_62 : decode cX5_far 62 = .ok (.lxor, 1) := by decide +kernel
theorem dX5_far_63 : decode cX5_far 63 = .ok (.land, 1) := by decide +kernel
theorem dX5_far_64 : decode cX5_far 64 = .ok (.lstore 6, 2) := by decide +kernel
theorem dX5_far_66 : decode cX5_far 66 = .ok (.lload 6, 2) := by decide +kernel
theorem dX5_far_68 : decode cX5_far 68 = .ok (.lconst 0, 1) := by decide +kernel
theorem dX5_far_69 : decode cX5_far 69 = .ok (.lcmp, 1) := by decide +kernel
theorem dX5_far_70 : decode cX5_far 70 = .ok (.ifCond .ne 5, 3) := by decide +kernel
theorem dX5_far_73 : decode cX5_far 73 = .ok (.iconst (-1), 1) := by decide +kernel
theorem dX5_far_74 : decode cX5_far 74 = .ok (.ireturn, 1) := by decide +kernel
theorem dX5_far_75 : decode cX5_far 75 = .ok (.aload_n 0, 1) := by decide +kernel
theorem dX5_far_76 : decode cX5_far 76 = .ok (.getfield 21, 3) := by decide +kernel
theorem dX5_far_79 : decode cX5_far 79 = .ok (.iload 5, 2) := by decide +kernel
theorem dX5_far_81 : decode cX5_far 81 = .ok (.iconst 1, 1) := by decide +kernel
theorem dX5_far_82 : decode cX5_far 82 = .ok (.iadd, 1) := by decide +kernel
theorem dX5_far_83 : decode cX5_far 83 = .ok (.lload 6, 2) := by decide +kernel
theorem dX5_far_85 : decode cX5_far 85 = .ok (.lastore, 1) := by decide +kernel
theorem dX5_far_86 : decode cX5_far 86 = .ok (.lload_n 3, 1) := by decide +kernel
theorem dX5_far_87 : decode cX5_far 87 = .ok (.lload 6, 2) := by decide +kernel
theorem dX5_far_89 : decode cX5_far 89 = .ok (.lor, 1) := by decide +kernel
theorem dX5_far_90 : decode cX5_far 90 = .ok (.lstore_n 3, 1) := by decide +kernel
theorem dX5_far_91 : decode cX5_far 91 = .ok (.iinc 5 1, 3) := by decide +kernel
theorem dX5_far_94 : decode cX5_far 94 = .ok (.goto (-79), 3) := by decide +kernel
theorem dX5_far_97 : decode cX5_far 97 = .ok (.iconst (-1), 1) := by decide +kernel
theorem dX5_far_98 : decode cX5_far 98 = .ok (.ireturn, 1) := by decide +kernel
theorem dX5_stepOf_0 : decode cX5_stepOf 0 = .ok (.iload_n 2, 1) := by decide +kernel
theorem dX5_stepOf_1 : decode cX5_stepOf 1 = .ok (.iconst 1, 1) := by decide +kernel
theorem dX5_stepOf_2 : decode cX5_stepOf 2 = .ok (.if_icmp .lt 9, 3) := by decide +kernel
theorem dX5_stepOf_5 : decode cX5_stepOf 5 = .ok (.iload_n 2, 1) := by decide +kernel
theorem dX5_stepOf_6 : decode cX5_stepOf 6 = .ok (.bipush 48, 2) := by decide +kernel
theorem dX5_stepOf_8 : decode cX5_stepOf 8 = .ok (.if_icmp .le 5, 3) := by decide +kernel
theorem dX5_stepOf_11 : decode cX5_stepOf 11 = .ok (.iload_n 1, 1) := by decide +kernel
theorem dX5_stepOf_12 : decode cX5_stepOf 12 = .ok (.ireturn, 1) := by decide +kernel
theorem dX5_stepOf_13 : decode cX5_stepOf 13 = .ok (.aload_n 0, 1) := by decide +kernel
theorem dX5_stepOf_14 : decode cX5_stepOf 14 = .ok (.iload_n 1, 1) := by decide +kernel
theorem dX5_stepOf_15 : decode cX5_stepOf 15 = .ok (.invokestatic 40, 3) := by decide +kernel
theorem dX5_stepOf_18 : decode cX5_stepOf 18 = .ok (.invokevirtual 44, 3) := by decide +kernel
theorem dX5_stepOf_21 : decode cX5_stepOf 21 = .ok (.aload_n 0, 1) := by decide +kernel
theorem dX5_stepOf_22 : decode cX5_stepOf 22 = .ok (.getfield 15, 3) := by decide +kernel
theorem dX5_stepOf_25 : decode cX5_stepOf 25 = .ok (.land, 1) := by decide +kernel
theorem dX5_stepOf_26 : decode cX5_stepOf 26 = .ok (.aload_n 0, 1) := by decide +kernel
theorem dX5_stepOf_27 : decode cX5_stepOf 27 = .ok (.getfield 21, 3) := by decide +kernel
theorem dX5_stepOf_30 : decode cX5_stepOf 30 = .ok (.iload_n 2, 1) := by decide +kernel
theorem dX5_stepOf_31 : decode cX5_stepOf 31 = .ok (.iconst 1, 1) := by decide +kernel
theorem dX5_stepOf_32 : decode cX5_stepOf 32 = .ok (.isub, 1) := by decide +kernel
theorem dX5_stepOf_33 : decode cX5_stepOf 33 = .ok (.laload, 1) := by decide +kernel
theorem dX5_stepOf_34 : decode cX5_stepOf 34 = .ok (.land, 1) := by decide +kernel
theorem dX5_stepOf_35 : decode cX5_stepOf 35 = .ok (.lstore_n 3, 1) := by decide +kernel
theorem dX5_stepOf_36 : decode cX5_stepOf 36 = .ok (.lload_n 3, 1) := by decide +kernel
theorem dX5_stepOf_37 : decode cX5_stepOf 37 = .ok (.lconst 0, 1) := by decide +kernel
theorem dX5_stepOf_38 : decode cX5_stepOf 38 = .ok (.lcmp, 1) := by decide +kernel
theorem dX5_stepOf_39 : decode cX5_stepOf 39 = .ok (.ifCond .ne 7, 3) := by decide +kernel
theorem dX5_stepOf_42 : decode cX5_stepOf 42 = .ok (.iload_n 1, 1) := by decide +kernel
theorem dX5_stepOf_43 : decode cX5_stepOf 43 = .ok (.goto 7, 3) := by decide +kernel
theorem dX5_stepOf_46 : decode cX5_stepOf 46 = .ok (.lload_n 3, 1) := by decide +kernel
theorem dX5_stepOf_47 : decode cX5_stepOf 47 = .ok (.invokestatic 50, 3) := by decide +kernel
theorem dX5_stepOf_50 : decode cX5_stepOf 50 = .ok (.ireturn, 1) := by decide +kernel
theorem dX5_spread_0 : decode cX5_spread 0 = .ok (.iload_n 1, 1) := by decide +kernel
theorem dX5_spread_1 : decode cX5_spread 1 = .ok (.invokestatic 40, 3) := by decide +kernel
theorem dX5_spread_4 : decode cX5_spread 4 = .ok (.lstore_n 2, 1) := by decide +kernel
theorem dX5_spread_5 : decode cX5_spread 5 = .ok (.aload_n 0, 1) := by decide +kernel
theorem dX5_spread_6 : decode cX5_spread 6 = .ok (.getfield 21, 3) := by decide +kernel
theorem dX5_spread_9 : decode cX5_spread 9 = .ok (.iconst 0, 1) := by decide +kernel
theorem dX5_spread_10 : decode cX5_spread 10 = .ok (.lload_n 2, 1) := by decide +kernel
theorem dX5_spread_11 : decode cX5_spread 11 = .ok (.lastore, 1) := by decide +kernel
theorem dX5_spread_12 : decode cX5_spread 12 = .ok (.iconst 0, 1) := by decide +kernel
theorem dX5_spread_13 : decode cX5_spread 13 = .ok (.istore 4, 2) := by decide +kernel
theorem dX5_spread_15 : decode cX5_spread 15 = .ok (.iload 4, 2) := by decide +kernel
theorem dX5_spread_17 : decode cX5_spread 17 = .ok (.bipush 48, 2) := by decide +kernel
theorem dX5_spread_19 : decode cX5_spread 19 = .ok (.if_icmp .ge 59, 3) := by decide +kernel
theorem dX5_spread_22 : decode cX5_spread 22 = .ok (.aload_n 0, 1) := by decide +kernel
theorem dX5_spread_23 : decode cX5_spread 23 = .ok (.aload_n 0, 1) := by decide +kernel
theorem dX5_spread_24 : decode cX5_spread 24 = .ok (.getfield 21, 3) := by decide +kernel
theorem dX5_spread_27 : decode cX5_spread 27 = .ok (.iload 4, 2) := by decide +kernel
theorem dX5_spread_29 : decode cX5_spread 29 = .ok (.laload, 1) := by decide +kernel
theorem dX5_spread_30 : decode cX5_spread 30 = .ok (.invokevirtual 44, 3) := by decide +kernel
theorem dX5_spread_33 : decode cX5_spread 33 = .ok (.aload_n 0, 1) := by decide +kernel
theorem dX5_spread_34 : decode cX5_spread 34 = .ok (.getfield 15, 3) := by decide +kernel
theorem dX5_spread_37 : decode cX5_spread 37 = .ok (.land, 1) := by decide +kernel
theorem dX5_spread_38 : decode cX5_spread 38 = .ok (.lload_n 2, 1) := by decide +kernel
theorem dX5_spread_39 : decode cX5_spread 39 = .ok (.ldc2_w 48, 3) := by decide +kernel
theorem dX5_spread_42 : decode cX5_spread 42 = .ok (.lxor, 1) := by decide +kernel
theorem dX5_spread_43 : decode cX5_spread 43 = .ok (.land, 1) := by decide +kernel
theorem dX5_spread_44 : decode cX5_spread 44 = .ok (.lstore 5, 2) := by decide +kernel
theorem dX5_spread_46 : decode cX5_spread 46 = .ok (.lload 5, 2) := by decide +kernel
theorem dX5_spread_48 : decode cX5_spread 48 = .ok (.lconst 0, 1) := by decide +kernel
theorem dX5_spread_49 : decode cX5_spread 49 = .ok (.lcmp, 1) := by decide +kernel
theorem dX5_spread_50 : decode cX5_spread 50 = .ok (.ifCond .ne 6, 3) := by decide +kernel
theorem dX5_spread_53 : decode cX5_spread 53 = .ok (.iload 4, 2) := by decide +kernel
theorem dX5_spread_55 : decode cX5_spread 55 = .ok (.ireturn, 1) := by decide +kernel
theorem dX5_spread_56 : decode cX5_spread 56 = .ok (.aload_n 0, 1) := by decide +kernel
theorem dX5_spread_57 : decode cX5_spread 57 = .ok (.getfield 21, 3) := by decide +kernel
theorem dX5_spread_60 : decode cX5_spread 60 = .ok (.iload 4, 2) := by decide +kernel
theorem dX5_spread_62 : decode cX5_spread 62 = .ok (.iconst 1, 1) := by decide +kernel
theorem dX5_spread_63 : decode cX5_spread 63 = .ok (.iadd, 1) := by decide +kernel
theorem dX5_spread_64 : decode cX5_spread 64 = .ok (.lload 5, 2) := by decide +kernel
theorem dX5_spread_66 : decode cX5_spread 66 = .ok (.lastore, 1) := by decide +kernel
theorem dX5_spread_67 : decode cX5_spread 67 = .ok (.lload_n 2, 1) := by decide +kernel
theorem dX5_spread_68 : decode cX5_spread 68 = .ok (.lload 5, 2) := by decide +kernel
theorem dX5_spread_70 : decode cX5_spread 70 = .ok (.lor, 1) := by decide +kernel
theorem dX5_spread_71 : decode cX5_spread 71 = .ok (.lstore_n 2, 1) := by decide +kernel
theorem dX5_spread_72 : decode cX5_spread 72 = .ok (.iinc 4 1, 3) := by decide +kernel
theorem dX5_spread_75 : decode cX5_spread 75 = .ok (.goto (-60), 3) := by decide +kernel
theorem dX5_spread_78 : decode cX5_spread 78 = .ok (.bipush 48, 2) := by decide +kernel
theorem dX5_spread_80 : decode cX5_spread 80 = .ok (.ireturn, 1) := by decide +kernel
theorem dX5_flood_0 : decode cX5_flood 0 = .ok (.lload_n 1, 1) := by decide +kernel
theorem dX5_flood_1 : decode cX5_flood 1 = .ok (.lstore 5, 2) := by decide +kernel
theorem dX5_flood_3 : decode cX5_flood 3 = .ok (.iconst 0, 1) := by decide +kernel
theorem dX5_flood_4 : decode cX5_flood 4 = .ok (.istore 7, 2) := by decide +kernel
theorem dX5_flood_6 : decode cX5_flood 6 = .ok (.iload 7, 2) := by decide +kernel
theorem dX5_flood_8 : decode cX5_flood 8 = .ok (.bipush 48, 2) := by decide +kernel
theorem dX5_flood_10 : decode cX5_flood 10 = .ok (.if_icmp .ge 37, 3) := by decide +kernel
theorem dX5_flood_13 : decode cX5_flood 13 = .ok (.lload 5, 2) := by decide +kernel
theorem dX5_flood_15 : decode cX5_flood 15 = .ok (.aload_n 0, 1) := by decide +kernel
theorem dX5_flood_16 : decode cX5_flood 16 = .ok (.lload 5, 2) := by decide +kernel
theorem dX5_flood_18 : decode cX5_flood 18 = .ok (.invokevirtual 44, 3) := by decide +kernel
theorem dX5_flood_21 : decode cX5_flood 21 = .ok (.lload_n 3, 1) := by decide +kernel
theorem dX5_flood_22 : decode cX5_flood 22 = .ok (.land, 1) := by decide +kernel
theorem dX5_flood_23 : decode cX5_flood 23 = .ok (.lor, 1) := by decide +kernel
theorem dX5_flood_24 : decode cX5_flood 24 = .ok (.lstore 8, 2) := by decide +kernel
theorem dX5_flood_26 : decode cX5_flood 26 = .ok (.lload 8, 2) := by decide +kernel
theorem dX5_flood_28 : decode cX5_flood 28 = .ok (.lload 5, 2) := by decide +kernel
theorem dX5_flood_30 : decode cX5_flood 30 = .ok (.lcmp, 1) := by decide +kernel
theorem dX5_flood_31 : decode cX5_flood 31 = .ok (.ifCond .ne 6, 3) := by decide +kernel
theorem dX5_flood_34 : decode cX5_flood 34 = .ok (.lload 5, 2) := by decide +kernel
theorem dX5_flood_36 : decode cX5_flood 36 = .ok (.lreturn, 1) := by decide +kernel
theorem dX5_flood_37 : decode cX5_flood 37 = .ok (.lload 8, 2) := by decide +kernel
theorem dX5_flood_39 : decode cX5_flood 39 = .ok (.lstore 5, 2) := by decide +kernel
theorem dX5_flood_41 : decode cX5_flood 41 = .ok (.iinc 7 1, 3) := by decide +kernel
theorem dX5_flood_44 : decode cX5_flood 44 = .ok (.goto (-38), 3) := by decide +kernel
theorem dX5_flood_47 : decode cX5_flood 47 = .ok (.lload 5, 2) := by decide +kernel
theorem dX5_flood_49 : decode cX5_flood 49 = .ok (.lreturn, 1) := by decide +kernel
theorem dX5_parts_0 : decode cX5_parts 0 = .ok (.iconst 0, 1) := by decide +kernel
theorem dX5_parts_1 : decode cX5_parts 1 = .ok (.istore_n 1, 1) := by decide +kernel
theorem dX5_parts_2 : decode cX5_parts 2 = .ok (.aload_n 0, 1) := by decide +kernel
theorem dX5_parts_3 : decode cX5_parts 3 = .ok (.getfield 15, 3) := by decide +kernel
theorem dX5_parts_6 : decode cX5_parts 6 = .ok (.lstore_n 2, 1) := by decide +kernel
theorem dX5_parts_7 : decode cX5_parts 7 = .ok (.iconst 0, 1) := by decide +kernel
theorem dX5_parts_8 : decode cX5_parts 8 = .ok (.istore 4, 2) := by decide +kernel
theorem dX5_parts_10 : decode cX5_parts 10 = .ok (.iload 4, 2) := by decide +kernel
theorem dX5_parts_12 : decode cX5_parts 12 = .ok (.bipush 48, 2) := by decide +kernel
theorem dX5_parts_14 : decode cX5_parts 14 = .ok (.if_icmp .ge 37, 3) := by decide +kernel
theorem dX5_parts_17 : decode cX5_parts 17 = .ok (.lload_n 2, 1) := by decide +kernel
theorem dX5_parts_18 : decode cX5_parts 18 = .ok (.lconst 0, 1) := by decide +kernel
theorem dX5_parts_19 : decode cX5_parts 19 = .ok (.lcmp, 1) := by decide +kernel
theorem dX5_parts_20 : decode cX5_parts 20 = .ok (.ifCond .eq 31, 3) := by decide +kernel
theorem dX5_parts_23 : decode cX5_parts 23 = .ok (.lload_n 2, 1) := by decide +kernel
theorem dX5_parts_24 : decode cX5_parts 24 = .ok (.aload_n 0, 1) := by decide +kernel
theorem dX5_parts_25 : decode cX5_parts 25 = .ok (.lload_n 2, 1) := by decide +kernel
theorem dX5_parts_26 : decode cX5_parts 26 = .ok (.lload_n 2, 1) := by decide +kernel
theorem dX5_parts_27 : decode cX5_parts 27 = .ok (.lneg, 1) := by decide +kernel
theorem dX5_parts_28 : decode cX5_parts 28 = .ok (.land, 1) := by decide +kernel
theorem dX5_parts_29 : decode cX5_parts 29 = .ok (.aload_n 0, 1) := by decide +kernel
theorem dX5_parts_30 : decode cX5_parts 30 = .ok (.getfield 15, 3) := by decide +kernel
theorem dX5_parts_33 : decode cX5_parts 33 = .ok (.invokevirtual 54, 3) := by decide +kernel
theorem dX5_parts_36 : decode cX5_parts 36 = .ok (.ldc2_w 48, 3) := by decide +kernel
theorem dX5_parts_39 : decode cX5_parts 39 = .ok (.lxor, 1) := by decide +kernel
theorem dX5_parts_40 : decode cX5_parts 40 = .ok (.land, 1) := by decide +kernel
theorem dX5_parts_41 : decode cX5_parts 41 = .ok (.lstore_n 2, 1) := by decide +kernel
theorem dX5_parts_42 : decode cX5_parts 42 = .ok (.iinc 1 1, 3) := by decide +kernel
theorem dX5_parts_45 : decode cX5_parts 45 = .ok (.iinc 4 1, 3) := by decide +kernel
theorem dX5_parts_48 : decode cX5_parts 48 = .ok (.goto (-38), 3) := by decide +kernel
theorem dX5_parts_51 : decode cX5_parts 51 = .ok (.iload_n 1, 1) := by decide +kernel
theorem dX5_parts_52 : decode cX5_parts 52 = .ok (.ireturn, 1) := by decide +kernel
theorem dX5_fewestToClear_0 : decode cX5_fewestToClear 0 = .ok (.aload_n 0, 1) := by decide +kernel
theorem dX5_fewestToClear_1 : decode cX5_fewestToClear 1 = .ok (.iload_n 1, 1) := by decide +kernel
theorem dX5_fewestToClear_2 : decode cX5_fewestToClear 2 = .ok (.invokestatic 40, 3) := by decide +kernel
theorem dX5_fewestToClear_5 : decode cX5_fewestToClear 5 = .ok (.aload_n 0, 1) := by decide +kernel
theorem dX5_fewestToClear_6 : decode cX5_fewestToClear 6 = .ok (.getfield 15, 3) := by decide +kernel
theorem dX5_fewestToClear_9 : decode cX5_fewestToClear 9 = .ok (.invokevirtual 54, 3) := by decide +kernel
theorem dX5_fewestToClear_12 : decode cX5_fewestToClear 12 = .ok (.lstore_n 3, 1) := by decide +kernel
theorem dX5_fewestToClear_13 : decode cX5_fewestToClear 13 = .ok (.iconst 0, 1) := by decide +kernel
theorem dX5_fewestToClear_14 : decode cX5_fewestToClear 14 = .ok (.istore 5, 2) := by decide +kernel
theorem dX5_fewestToClear_16 : decode cX5_fewestToClear 16 = .ok (.iload 5, 2) := by decide +kernel
theorem dX5_fewestToClear_18 : decode cX5_fewestToClear 18 = .ok (.bipush 48, 2) := by decide +kernel
theorem dX5_fewestToClear_20 : decode cX5_fewestToClear 20 = .ok (.if_icmp .gt 52, 3) := by decide +kernel
theorem dX5_fewestToClear_23 : decode cX5_fewestToClear 23 = .ok (.lload_n 3, 1) := by decide +kernel
theorem dX5_fewestToClear_24 : decode cX5_fewestToClear 24 = .ok (.iload_n 2, 1) := by decide +kernel
theorem dX5_fewestToClear_25 : decode cX5_fewestToClear 25 = .ok (.invokestatic 40, 3) := by decide +kernel
theorem dX5_fewestToClear_28 : decode cX5_fewestToClear 28 = .ok (.land, 1) := by decide +kernel
theorem dX5_fewestToClear_29 : decode cX5_fewestToClear 29 = .ok (.lconst 0, 1) := by decide +kernel
theorem dX5_fewestToClear_30 : decode cX5_fewestToClear 30 = .ok (.lcmp, 1) := by decide +kernel
theorem dX5_fewestToClear_31 : decode cX5_fewestToClear 31 = .ok (.ifCond .eq 6, 3) := by decide +kernel
theorem dX5_fewestToClear_34 : decode cX5_fewestToClear 34 = .ok (.iload 5, 2) := by decide +kernel
theorem dX5_fewestToClear_36 : decode cX5_fewestToClear 36 = .ok (.ireturn, 1) := by decide +kernel
theorem dX5_fewestToClear_37 : decode cX5_fewestToClear 37 = .ok (.lload_n 3, 1) := by decide +kernel
theorem dX5_fewestToClear_38 : decode cX5_fewestToClear 38 = .ok (.aload_n 0, 1) := by decide +kernel
theorem dX5_fewestToClear_39 : decode cX5_fewestToClear 39 = .ok (.lload_n 3, 1) := by decide +kernel
theorem dX5_fewestToClear_40 : decode cX5_fewestToClear 40 = .ok (.invokevirtual 44, 3) := by decide +kernel
theorem dX5_fewestToClear_43 : decode cX5_fewestToClear 43 = .ok (.lor, 1) := by decide +kernel
theorem dX5_fewestToClear_44 : decode cX5_fewestToClear 44 = .ok (.lstore 6, 2) := by decide +kernel
theorem dX5_fewestToClear_46 : decode cX5_fewestToClear 46 = .ok (.lload 6, 2) := by decide +kernel
theorem dX5_fewestToClear_48 : decode cX5_fewestToClear 48 = .ok (.lload_n 3, 1) := by decide +kernel
theorem dX5_fewestToClear_49 : decode cX5_fewestToClear 49 = .ok (.lcmp, 1) := by decide +kernel
theorem dX5_fewestToClear_50 : decode cX5_fewestToClear 50 = .ok (.ifCond .ne 5, 3) := by decide +kernel
theorem dX5_fewestToClear_53 : decode cX5_fewestToClear 53 = .ok (.iconst (-1), 1) := by decide +kernel
theorem dX5_fewestToClear_54 : decode cX5_fewestToClear 54 = .ok (.ireturn, 1) := by decide +kernel
theorem dX5_fewestToClear_55 : decode cX5_fewestToClear 55 = .ok (.aload_n 0, 1) := by decide +kernel
theorem dX5_fewestToClear_56 : decode cX5_fewestToClear 56 = .ok (.lload 6, 2) := by decide +kernel
theorem dX5_fewestToClear_58 : decode cX5_fewestToClear 58 = .ok (.aload_n 0, 1) := by decide +kernel
theorem dX5_fewestToClear_59 : decode cX5_fewestToClear 59 = .ok (.getfield 15, 3) := by decide +kernel
theorem dX5_fewestToClear_62 : decode cX5_fewestToClear 62 = .ok (.invokevirtual 54, 3) := by decide +kernel
theorem dX5_fewestToClear_65 : decode cX5_fewestToClear 65 = .ok (.lstore_n 3, 1) := by decide +kernel
theorem dX5_fewestToClear_66 : decode cX5_fewestToClear 66 = .ok (.iinc 5 1, 3) := by decide +kernel
theorem dX5_fewestToClear_69 : decode cX5_fewestToClear 69 = .ok (.goto (-53), 3) := by decide +kernel
theorem dX5_fewestToClear_72 : decode cX5_fewestToClear 72 = .ok (.iconst (-1), 1) := by decide +kernel
theorem dX5_fewestToClear_73 : decode cX5_fewestToClear 73 = .ok (.ireturn, 1) := by decide +kernel
theorem dX5_needed_0 : decode cX5_needed 0 = .ok (.aload_n 0, 1) := by decide +kernel
theorem dX5_needed_1 : decode cX5_needed 1 = .ok (.iload_n 1, 1) := by decide +kernel
theorem dX5_needed_2 : decode cX5_needed 2 = .ok (.invokestatic 40, 3) := by decide +kernel
theorem dX5_needed_5 : decode cX5_needed 5 = .ok (.aload_n 0, 1) := by decide +kernel
theorem dX5_needed_6 : decode cX5_needed 6 = .ok (.getfield 15, 3) := by decide +kernel
theorem dX5_needed_9 : decode cX5_needed 9 = .ok (.invokevirtual 54, 3) := by decide +kernel
theorem dX5_needed_12 : decode cX5_needed 12 = .ok (.iload_n 2, 1) := by decide +kernel
theorem dX5_needed_13 : decode cX5_needed 13 = .ok (.invokestatic 40, 3) := by decide +kernel
theorem dX5_needed_16 : decode cX5_needed 16 = .ok (.land, 1) := by decide +kernel
theorem dX5_needed_17 : decode cX5_needed 17 = .ok (.lconst 0, 1) := by decide +kernel
theorem dX5_needed_18 : decode cX5_needed 18 = .ok (.lcmp, 1) := by decide +kernel
theorem dX5_needed_19 : decode cX5_needed 19 = .ok (.ifCond .ne 5, 3) := by decide +kernel
theorem dX5_needed_22 : decode cX5_needed 22 = .ok (.iconst 0, 1) := by decide +kernel
theorem dX5_needed_23 : decode cX5_needed 23 = .ok (.ireturn, 1) := by decide +kernel
theorem dX5_needed_24 : decode cX5_needed 24 = .ok (.iconst 0, 1) := by decide +kernel
theorem dX5_needed_25 : decode cX5_needed 25 = .ok (.istore_n 3, 1) := by decide +kernel
theorem dX5_needed_26 : decode cX5_needed 26 = .ok (.aload_n 0, 1) := by decide +kernel
theorem dX5_needed_27 : decode cX5_needed 27 = .ok (.getfield 15, 3) := by decide +kernel
theorem dX5_needed_30 : decode cX5_needed 30 = .ok (.iload_n 1, 1) := by decide +kernel
theorem dX5_needed_31 : decode cX5_needed 31 = .ok (.invokestatic 40, 3) := by decide +kernel
theorem dX5_needed_34 : decode cX5_needed 34 = .ok (.ldc2_w 48, 3) := by decide +kernel
theorem dX5_needed_37 : decode cX5_needed 37 = .ok (.lxor, 1) := by decide +kernel
theorem dX5_needed_38 : decode cX5_needed 38 = .ok (.land, 1) := by decide +kernel
theorem dX5_needed_39 : decode cX5_needed 39 = .ok (.iload_n 2, 1) := by decide +kernel
theorem dX5_needed_40 : decode cX5_needed 40 = .ok (.invokestatic 40, 3) := by decide +kernel
theorem dX5_needed_43 : decode cX5_needed 43 = .ok (.ldc2_w 48, 3) := by decide +kernel
theorem dX5_needed_46 : decode cX5_needed 46 = .ok (.lxor, 1) := by decide +kernel
theorem dX5_needed_47 : decode cX5_needed 47 = .ok (.land, 1) := by decide +kernel
theorem dX5_needed_48 : decode cX5_needed 48 = .ok (.lstore 4, 2) := by decide +kernel
theorem dX5_needed_50 : decode cX5_needed 50 = .ok (.iconst 0, 1) := by decide +kernel
theorem dX5_needed_51 : decode cX5_needed 51 = .ok (.istore 6, 2) := by decide +kernel
theorem dX5_needed_53 : decode cX5_needed 53 = .ok (.iload 6, 2) := by decide +kernel
theorem dX5_needed_55 : decode cX5_needed 55 = .ok (.bipush 48, 2) := by decide +kernel
theorem dX5_needed_57 : decode cX5_needed 57 = .ok (.if_icmp .ge 69, 3) := by decide +kernel
theorem dX5_needed_60 : decode cX5_needed 60 = .ok (.lload 4, 2) := by decide +kernel
theorem dX5_needed_62 : decode cX5_needed 62 = .ok (.iload 6, 2) := by decide +kernel
theorem dX5_needed_64 : decode cX5_needed 64 = .ok (.invokestatic 40, 3) := by decide +kernel
theorem dX5_needed_67 : decode cX5_needed 67 = .ok (.land, 1) := by decide +kernel
theorem dX5_needed_68 : decode cX5_needed 68 = .ok (.lconst 0, 1) := by decide +kernel
theorem dX5_needed_69 : decode cX5_needed 69 = .ok (.lcmp, 1) := by decide +kernel
theorem dX5_needed_70 : decode cX5_needed 70 = .ok (.ifCond .eq 7, 3) := by decide +kernel
theorem dX5_needed_73 : decode cX5_needed 73 = .ok (.iconst 1, 1) := by decide +kernel
theorem dX5_needed_74 : decode cX5_needed 74 = .ok (.goto 4, 3) := by decide +kernel
theorem dX5_needed_77 : decode cX5_needed 77 = .ok (.iconst 0, 1) := by decide +kernel
theorem dX5_needed_78 : decode cX5_needed 78 = .ok (.istore 7, 2) := by decide +kernel
theorem dX5_needed_80 : decode cX5_needed 80 = .ok (.iload 7, 2) := by decide +kernel
theorem dX5_needed_82 : decode cX5_needed 82 = .ok (.ifCond .eq 38, 3) := by decide +kernel
theorem dX5_needed_85 : decode cX5_needed 85 = .ok (.aload_n 0, 1) := by decide +kernel
theorem dX5_needed_86 : decode cX5_needed 86 = .ok (.iload_n 1, 1) := by decide +kernel
theorem dX5_needed_87 : decode cX5_needed 87 = .ok (.invokestatic 40, 3) := by decide +kernel
theorem dX5_needed_90 : decode cX5_needed 90 = .ok (.aload_n 0, 1) := by decide +kernel
theorem dX5_needed_91 : decode cX5_needed 91 = .ok (.getfield 15, 3) := by decide +kernel
theorem dX5_needed_94 : decode cX5_needed 94 = .ok (.iload 6, 2) := by decide +kernel
theorem dX5_needed_96 : decode cX5_needed 96 = .ok (.invokestatic 40, 3) := by decide +kernel
theorem dX5_needed_99 : decode cX5_needed 99 = .ok (.ldc2_w 48, 3) := by decide +kernel
theorem dX5_needed_102 : decode cX5_needed 102 = .ok (.lxor, 1) := by decide +kernel
theorem dX5_needed_103 : decode cX5_needed 103 = .ok (.land, 1) := by decide +kernel
theorem dX5_needed_104 : decode cX5_needed 104 = .ok (.invokevirtual 54, 3) := by decide +kernel
theorem dX5_needed_107 : decode cX5_needed 107 = .ok (.iload_n 2, 1) := by decide +kernel
theorem dX5_needed_108 : decode cX5_needed 108 = .ok (.invokestatic 40, 3) := by decide +kernel
theorem dX5_needed_111 : decode cX5_needed 111 = .ok (.land, 1) := by decide +kernel
theorem dX5_needed_112 : decode cX5_needed 112 = .ok (.lconst 0, 1) := by decide +kernel
theorem dX5_needed_113 : decode cX5_needed 113 = .ok (.lcmp, 1) := by decide +kernel
theorem dX5_needed_114 : decode cX5_needed 114 = .ok (.ifCond .ne 6, 3) := by decide +kernel
theorem dX5_needed_117 : decode cX5_needed 117 = .ok (.iinc 3 1, 3) := by decide +kernel
theorem dX5_needed_120 : decode cX5_needed 120 = .ok (.iinc 6 1, 3) := by decide +kernel
theorem dX5_needed_123 : decode cX5_needed 123 = .ok (.goto (-70), 3) := by decide +kernel
theorem dX5_needed_126 : decode cX5_needed 126 = .ok (.iload_n 3, 1) := by decide +kernel
theorem dX5_needed_127 : decode cX5_needed 127 = .ok (.ireturn, 1) := by decide +kernel
theorem dX5_shortestWays_0 : decode cX5_shortestWays 0 = .ok (.aload_n 0, 1) := by decide +kernel
theorem dX5_shortestWays_1 : decode cX5_shortestWays 1 = .ok (.iload_n 1, 1) := by decide +kernel
theorem dX5_shortestWays_2 : decode cX5_shortestWays 2 = .ok (.iload_n 2, 1) := by decide +kernel
theorem dX5_shortestWays_3 : decode cX5_shortestWays 3 = .ok (.invokevirtual 58, 3) := by decide +kernel
theorem dX5_shortestWays_6 : decode cX5_shortestWays 6 = .ok (.istore_n 3, 1) := by decide +kernel
theorem dX5_shortestWays_7 : decode cX5_shortestWays 7 = .ok (.iload_n 3, 1) := by decide +kernel
theorem dX5_shortestWays_8 : decode cX5_shortestWays 8 = .ok (.iconst (-1), 1) := by decide +kernel
theorem dX5_shortestWays_9 : decode cX5_shortestWays 9 = .ok (.if_icmp .ne 5, 3) := by decide +kernel
theorem dX5_shortestWays_12 : decode cX5_shortestWays 12 = .ok (.iconst 0, 1) := by decide +kernel
theorem dX5_shortestWays_13 : decode cX5_shortestWays 13 = .ok (.ireturn, 1) := by decide +kernel
theorem dX5_shortestWays_14 : decode cX5_shortestWays 14 = .ok (.iconst 0, 1) := by decide +kernel
theorem dX5_shortestWays_15 : decode cX5_shortestWays 15 = .ok (.istore 4, 2) := by decide +kernel
theorem dX5_shortestWays_17 : decode cX5_shortestWays 17 = .ok (.iload 4, 2) := by decide +kernel
theorem dX5_shortestWays_19 : decode cX5_shortestWays 19 = .ok (.bipush 48, 2) := by decide +kernel
theorem dX5_shortestWays_21 : decode cX5_shortestWays 21 = .ok (.if_icmp .ge 17, 3) := by decide +kernel
theorem dX5_shortestWays_24 : decode cX5_shortestWays 24 = .ok (.aload_n 0, 1) := by decide +kernel
theorem dX5_shortestWays_25 : decode cX5_shortestWays 25 = .ok (.getfield 25, 3) := by decide +kernel
theorem dX5_shortestWays_28 : decode cX5_shortestWays 28 = .ok (.iload 4, 2) := by decide +kernel
theorem dX5_shortestWays_30 : decode cX5_shortestWays 30 = .ok (.iconst 0, 1) := by decide +kernel
theorem dX5_shortestWays_31 : decode cX5_shortestWays 31 = .ok (.iastore, 1) := by decide +kernel
theorem dX5_shortestWays_32 : decode cX5_shortestWays 32 = .ok (.iinc 4 1, 3) := by decide +kernel
theorem dX5_shortestWays_35 : decode cX5_shortestWays 35 = .ok (.goto (-18), 3) := by decide +kernel
theorem dX5_shortestWays_38 : decode cX5_shortestWays 38 = .ok (.aload_n 0, 1) := by decide +kernel
theorem dX5_shortestWays_39 : decode cX5_shortestWays 39 = .ok (.getfield 25, 3) := by decide +kernel
theorem dX5_shortestWays_42 : decode cX5_shortestWays 42 = .ok (.iload_n 1, 1) := by decide +kernel
theorem dX5_shortestWays_43 : decode cX5_shortestWays 43 = .ok (.iconst 1, 1) := by decide +kernel
theorem dX5_shortestWays_44 : decode cX5_shortestWays 44 = .ok (.iastore, 1) := by decide +kernel
theorem dX5_shortestWays_45 : decode cX5_shortestWays 45 = .ok (.iload_n 3, 1) := by decide +kernel
theorem dX5_shortestWays_46 : decode cX5_shortestWays 46 = .ok (.iconst 1, 1) := by decide +kernel
theorem dX5_shortestWays_47 : decode cX5_shortestWays 47 = .ok (.isub, 1) := by decide +kernel
theorem dX5_shortestWays_48 : decode cX5_shortestWays 48 = .ok (.istore 4, 2) := by decide +kernel
theorem dX5_shortestWays_50 : decode cX5_shortestWays 50 = .ok (.iload 4, 2) := by decide +kernel
theorem dX5_shortestWays_52 : decode cX5_shortestWays 52 = .ok (.ifCond .lt 78, 3) := by decide +kernel
theorem dX5_shortestWays_55 : decode cX5_shortestWays 55 = .ok (.iconst 0, 1) := by decide +kernel
theorem dX5_shortestWays_56 : decode cX5_shortestWays 56 = .ok (.istore 5, 2) := by decide +kernel
theorem dX5_shortestWays_58 : decode cX5_shortestWays 58 = .ok (.iload 5, 2) := by decide +kernel
theorem dX5_shortestWays_60 : decode cX5_shortestWays 60 = .ok (.bipush 48, 2) := by decide +kernel
theorem dX5_shortestWays_62 : decode cX5_shortestWays 62 = .ok (.if_icmp .ge 62, 3) := by decide +kernel
theorem dX5_shortestWays_65 : decode cX5_shortestWays 65 = .ok (.aload_n 0, 1) := by decide +kernel
theorem dX5_shortestWays_66 : decode cX5_shortestWays 66 = .ok (.getfield 21, 3) := by decide +kernel
theorem dX5_shortestWays_69 : decode cX5_shortestWays 69 = .ok (.iload 4, 2) := by decide +kernel
theorem dX5_shortestWays_71 : decode cX5_shortestWays 71 = .ok (.laload, 1) := by decide +kernel
theorem dX5_shortestWays_72 : decode cX5_shortestWays 72 = .ok (.aload_n 0, 1) := by decide +kernel
theorem dX5_shortestWays_73 : decode cX5_shortestWays 73 = .ok (.getfield 15, 3) := by decide +kernel
theorem dX5_shortestWays_76 : decode cX5_shortestWays 76 = .ok (.land, 1) := by decide +kernel
theorem dX5_shortestWays_77 : decode cX5_shortestWays 77 = .ok (.iload 5, 2) := by decide +kernel
theorem dX5_shortestWays_79 : decode cX5_shortestWays 79 = .ok (.invokestatic 40, 3) := by decide +kernel
theorem dX5_shortestWays_82 : decode cX5_shortestWays 82 = .ok (.land, 1) := by decide +kernel
theorem dX5_shortestWays_83 : decode cX5_shortestWays 83 = .ok (.lconst 0, 1) := by decide +kernel
theorem dX5_shortestWays_84 : decode cX5_shortestWays 84 = .ok (.lcmp, 1) := by decide +kernel
theorem dX5_shortestWays_85 : decode cX5_shortestWays 85 = .ok (.ifCond .eq 33, 3) := by decide +kernel
theorem dX5_shortestWays_88 : decode cX5_shortestWays 88 = .ok (.aload_n 0, 1) := by decide +kernel
theorem dX5_shortestWays_89 : decode cX5_shortestWays 89 = .ok (.getfield 25, 3) := by decide +kernel
theorem dX5_shortestWays_92 : decode cX5_shortestWays 92 = .ok (.iload 5, 2) := by decide +kernel
theorem dX5_shortestWays_94 : decode cX5_shortestWays 94 = .ok (.aload_n 0, 1) := by decide +kernel
theorem dX5_shortestWays_95 : decode cX5_shortestWays 95 = .ok (.aload_n 0, 1) := by decide +kernel
theorem dX5_shortestWays_96 : decode cX5_shortestWays 96 = .ok (.iload 5, 2) := by decide +kernel
theorem dX5_shortestWays_98 : decode cX5_shortestWays 98 = .ok (.invokestatic 40, 3) := by decide +kernel
theorem dX5_shortestWays_101 : decode cX5_shortestWays 101 = .ok (.invokevirtual 44, 3) := by decide +kernel
theorem dX5_shortestWays_104 : decode cX5_shortestWays 104 = .ok (.aload_n 0, 1) := by decide +kernel
theorem dX5_shortestWays_105 : decode cX5_shortestWays 105 = .ok (.getfield 21, 3) := by decide +kernel
theorem dX5_shortestWays_108 : decode cX5_shortestWays 108 = .ok (.iload 4, 2) := by decide +kernel
theorem dX5_shortestWays_110 : decode cX5_shortestWays 110 = .ok (.iconst 1, 1) := by decide +kernel
theorem dX5_shortestWays_111 : decode cX5_shortestWays 111 = .ok (.iadd, 1) := by decide +kernel
theorem dX5_shortestWays_112 : decode cX5_shortestWays 112 = .ok (.laload, 1) := by decide +kernel
theorem dX5_shortestWays_113 : decode cX5_shortestWays 113 = .ok (.land, 1) := by decide +kernel
theorem dX5_shortestWays_114 : decode cX5_shortestWays 114 = .ok (.invokevirtual 62, 3) := by decide +kernel
theorem dX5_shortestWays_117 : decode cX5_shortestWays 117 = .ok (.iastore, 1) := by decide +kernel
theorem dX5_shortestWays_118 : decode cX5_shortestWays 118 = .ok (.iinc 5 1, 3) := by decide +kernel
theorem dX5_shortestWays_121 : decode cX5_shortestWays 121 = .ok (.goto (-63), 3) := by decide +kernel
theorem dX5_shortestWays_124 : decode cX5_shortestWays 124 = .ok (.iinc 4 (-1), 3) := by decide +kernel
theorem dX5_shortestWays_127 : decode cX5_shortestWays 127 = .ok (.goto (-77), 3) := by decide +kernel
theorem dX5_shortestWays_130 : decode cX5_shortestWays 130 = .ok (.aload_n 0, 1) := by decide +kernel
theorem dX5_shortestWays_131 : decode cX5_shortestWays 131 = .ok (.getfield 25, 3) := by decide +kernel
theorem dX5_shortestWays_134 : decode cX5_shortestWays 134 = .ok (.iload_n 2, 1) := by decide +kernel
theorem dX5_shortestWays_135 : decode cX5_shortestWays 135 = .ok (.iaload, 1) := by decide +kernel
theorem dX5_shortestWays_136 : decode cX5_shortestWays 136 = .ok (.ireturn, 1) := by decide +kernel
theorem dX5_pathsOver_0 : decode cX5_pathsOver 0 = .ok (.iconst 0, 1) := by decide +kernel
theorem dX5_pathsOver_1 : decode cX5_pathsOver 1 = .ok (.istore_n 3, 1) := by decide +kernel
theorem dX5_pathsOver_2 : decode cX5_pathsOver 2 = .ok (.lload_n 1, 1) := by decide +kernel
theorem dX5_pathsOver_3 : decode cX5_pathsOver 3 = .ok (.lstore 4, 2) := by decide +kernel
theorem dX5_pathsOver_5 : decode cX5_pathsOver 5 = .ok (.iconst 0, 1) := by decide +kernel
theorem dX5_pathsOver_6 : decode cX5_pathsOver 6 = .ok (.istore 6, 2) := by decide +kernel
theorem dX5_pathsOver_8 : decode cX5_pathsOver 8 = .ok (.iload 6, 2) := by decide +kernel
theorem dX5_pathsOver_10 : decode cX5_pathsOver 10 = .ok (.iconst 4, 1) := by decide +kernel
theorem dX5_pathsOver_11 : decode cX5_pathsOver 11 = .ok (.if_icmp .ge 38, 3) := by decide +kernel
theorem dX5_pathsOver_14 : decode cX5_pathsOver 14 = .ok (.lload 4, 2) := by decide +kernel
theorem dX5_pathsOver_16 : decode cX5_pathsOver 16 = .ok (.lconst 0, 1) := by decide +kernel
theorem dX5_pathsOver_17 : decode cX5_pathsOver 17 = .ok (.lcmp, 1) := by decide +kernel
theorem dX5_pathsOver_18 : decode cX5_pathsOver 18 = .ok (.ifCond .eq 31, 3) := by decide +kernel
theorem dX5_pathsOver_21 : decode cX5_pathsOver 21 = .ok (.iload_n 3, 1) := by decide +kernel
theorem dX5_pathsOver_22 : decode cX5_pathsOver 22 = .ok (.aload_n 0, 1) := by decide +kernel
theorem dX5_pathsOver_23 : decode cX5_pathsOver 23 = .ok (.getfield 25, 3) := by decide +kernel
theorem dX5_pathsOver_26 : decode cX5_pathsOver 26 = .ok (.lload 4, 2) := by decide +kernel
theorem dX5_pathsOver_28 : decode cX5_pathsOver 28 = .ok (.invokestatic 50, 3) := by decide +kernel
theorem dX5_pathsOver_31 : decode cX5_pathsOver 31 = .ok (.iaload, 1) := by decide +kernel
theorem dX5_pathsOver_32 : decode cX5_pathsOver 32 = .ok (.iadd, 1) := by decide +kernel
theorem dX5_pathsOver_33 : decode cX5_pathsOver 33 = .ok (.istore_n 3, 1) := by decide +kernel
theorem dX5_pathsOver_34 : decode cX5_pathsOver 34 = .ok (.lload 4, 2) := by decide +kernel
theorem dX5_pathsOver_36 : decode cX5_pathsOver 36 = .ok (.lload 4, 2) := by decide +kernel
theorem dX5_pathsOver_38 : decode cX5_pathsOver 38 = .ok (.lconst 1, 1) := by decide +kernel
theorem dX5_pathsOver_39 : decode cX5_pathsOver 39 = .ok (.lsub, 1) := by decide +kernel
theorem dX5_pathsOver_40 : decode cX5_pathsOver 40 = .ok (.land, 1) := by decide +kernel
theorem dX5_pathsOver_41 : decode cX5_pathsOver 41 = .ok (.lstore 4, 2) := by decide +kernel
theorem dX5_pathsOver_43 : decode cX5_pathsOver 43 = .ok (.iinc 6 1, 3) := by decide +kernel
theorem dX5_pathsOver_46 : decode cX5_pathsOver 46 = .ok (.goto (-38), 3) := by decide +kernel
theorem dX5_pathsOver_49 : decode cX5_pathsOver 49 = .ok (.iload_n 3, 1) := by decide +kernel
theorem dX5_pathsOver_50 : decode cX5_pathsOver 50 = .ok (.ireturn, 1) := by decide +kernel
theorem dX6_init_0 : decode cX6_init 0 = .ok (.aload_n 0, 1) := by decide +kernel
theorem dX6_init_1 : decode cX6_init 1 = .ok (.invokespecial 3, 3) := by decide +kernel
theorem dX6_init_4 : decode cX6_init 4 = .ok (.aload_n 0, 1) := by decide +kernel
theorem dX6_init_5 : decode cX6_init 5 = .ok (.iconst 0, 1) := by decide +kernel
theorem dX6_init_6 : decode cX6_init 6 = .ok (.putfield 9, 3) := by decide +kernel
theorem dX6_init_9 : decode cX6_init 9 = .ok (.aload_n 0, 1) := by decide +kernel
theorem dX6_init_10 : decode cX6_init 10 = .ok (.iconst (-1), 1) := by decide +kernel
theorem dX6_init_11 : decode cX6_init 11 = .ok (.putfield 15, 3) := by decide +kernel
theorem dX6_init_14 : decode cX6_init 14 = .ok (.aload_n 0, 1) := by decide +kernel
theorem dX6_init_15 : decode cX6_init 15 = .ok (.iconst 0, 1) := by decide +kernel
theorem dX6_init_16 : decode cX6_init 16 = .ok (.newarray .int, 2) := by decide +kernel
theorem dX6_init_18 : decode cX6_init 18 = .ok (.putfield 18, 3) := by decide +kernel
theorem dX6_init_21 : decode cX6_init 21 = .ok (.aload_n 0, 1) := by decide +kernel
theorem dX6_init_22 : decode cX6_init 22 = .ok (.iconst 0, 1) := by decide +kernel
theorem dX6_init_23 : decode cX6_init 23 = .ok (.putfield 22, 3) := by decide +kernel
theorem dX6_init_26 : decode cX6_init 26 = .ok (.aload_n 0, 1) := by decide +kernel
theorem dX6_init_27 : decode cX6_init 27 = .ok (.iconst 0, 1) := by decide +kernel
theorem dX6_init_28 : decode cX6_init 28 = .ok (.putfield 25, 3) := by decide +kernel
theorem dX6_init_31 : decode cX6_init 31 = .ok (.aload_n 0, 1) := by decide +kernel
theorem dX6_init_32 : decode cX6_init 32 = .ok (.iconst 0, 1) := by decide +kernel
theorem dX6_init_33 : decode cX6_init 33 = .ok (.putfield 28, 3) := by decide +kernel
theorem dX6_init_36 : decode cX6_init 36 = .ok (.aload_n 0, 1) := by decide +kernel
theorem dX6_init_37 : decode cX6_init 37 = .ok (.sipush 259, 3) := by decide +kernel
theorem dX6_init_40 : decode cX6_init 40 = .ok (.putfield 31, 3) := by decide +kernel
theorem dX6_init_43 : decode cX6_init 43 = .ok (.aload_n 0, 1) := by decide +kernel
theorem dX6_init_44 : decode cX6_init 44 = .ok (.iconst 0, 1) := by decide +kernel
theorem dX6_init_45 : decode cX6_init 45 = .ok (.putfield 34, 3) := by decide +kernel
theorem dX6_init_48 : decode cX6_init 48 = .ok (.aload_n 0, 1) := by decide +kernel
theorem dX6_init_49 : decode cX6_init 49 = .ok (.ldc 37, 2) := by decide +kernel
theorem dX6_init_51 : decode cX6_init 51 = .ok (.putfield 39, 3) := by decide +kernel
theorem dX6_init_54 : decode cX6_init 54 = .ok (.aload_n 0, 1) := by decide +kernel
theorem dX6_init_55 : decode cX6_init 55 = .ok (.aload_n 1, 1) := by decide +kernel
theorem dX6_init_56 : decode cX6_init 56 = .ok (.putfield 43, 3) := by decide +kernel
theorem dX6_init_59 : decode cX6_init 59 = .ok (.aload_n 0, 1) := by decide +kernel
theorem dX6_init_60 : decode cX6_init 60 = .ok (.aload_n 1, 1) := by decide +kernel
theorem dX6_init_61 : decode cX6_init 61 = .ok (.getfield 47, 3) := by decide +kernel
theorem dX6_init_64 : decode cX6_init 64 = .ok (.putfield 53, 3) := by decide +kernel
theorem dX6_init_67 : decode cX6_init 67 = .ok (.return_, 1) := by decide +kernel
theorem dX6_read_0 : decode cX6_read 0 = .ok (.aload_n 0, 1) := by decide +kernel
theorem dX6_read_1 : decode cX6_read 1 = .ok (.aload_n 1, 1) := by decide +kernel
theorem dX6_read_2 : decode cX6_read 2 = .ok (.putfield 18, 3) := by decide +kernel
theorem dX6_read_5 : decode cX6_read 5 = .ok (.aload_n 0, 1) := by decide +kernel
theorem dX6_read_6 : decode cX6_read 6 = .ok (.iload_n 2, 1) := by decide +kernel
theorem dX6_read_7 : decode cX6_read 7 = .ok (.aload_n 1, 1) := by decide +kernel
theorem dX6_read_8 : decode cX6_read 8 = .ok (.arraylength, 1) := by decide +kernel
theorem dX6_read_9 : decode cX6_read 9 = .ok (.invokestatic 56, 3) := by decide +kernel
theorem dX6_read_12 : decode cX6_read 12 = .ok (.putfield 22, 3) := by decide +kernel
theorem dX6_read_15 : decode cX6_read 15 = .ok (.aload_n 0, 1) := by decide +kernel
theorem dX6_read_16 : decode cX6_read 16 = .ok (.iconst 0, 1) := by decide +kernel
theorem dX6_read_17 : decode cX6_read 17 = .ok (.putfield 28, 3) := by decide +kernel
theorem dX6_read_20 : decode cX6_read 20 = .ok (.aload_n 0, 1) := by decide +kernel
theorem dX6_read_21 : decode cX6_read 21 = .ok (.iconst 0, 1) := by decide +kernel
theorem dX6_read_22 : decode cX6_read 22 = .ok (.putfield 9, 3) := by decide +kernel
theorem dX6_read_25 : decode cX6_read 25 = .ok (.aload_n 0, 1) := by decide +kernel
theorem dX6_read_26 : decode cX6_read 26 = .ok (.iconst (-1), 1) := by decide +kernel
theorem dX6_read_27 : decode cX6_read 27 = .ok (.putfield 15, 3) := by decide +kernel
theorem dX6_read_30 : decode cX6_read 30 = .ok (.aload_n 0, 1) := by decide +kernel
theorem dX6_read_31 : decode cX6_read 31 = .ok (.aload_n 3, 1) := by decide +kernel
theorem dX6_read_32 : decode cX6_read 32 = .ok (.putfield 43, 3) := by decide +kernel
theorem dX6_read_35 : decode cX6_read 35 = .ok (.aload_n 0, 1) := by decide +kernel
theorem dX6_read_36 : decode cX6_read 36 = .ok (.getfield 43, 3) := by decide +kernel
theorem dX6_read_39 : decode cX6_read 39 = .ok (.invokevirtual 62, 3) := by decide +kernel
theorem dX6_read_42 : decode cX6_read 42 = .ok (.aload_n 0, 1) := by decide +kernel
theorem dX6_read_43 : decode cX6_read 43 = .ok (.invokevirtual 65, 3) := by decide +kernel
theorem dX6_read_46 : decode cX6_read 46 = .ok (.iconst 0, 1) := by decide +kernel
theorem dX6_read_47 : decode cX6_read 47 = .ok (.istore 4, 2) := by decide +kernel
theorem dX6_read_49 : decode cX6_read 49 = .ok (.iload 4, 2) := by decide +kernel
theorem dX6_read_51 : decode cX6_read 51 = .ok (.sipush 700, 3) := by decide +kernel
theorem dX6_read_54 : decode cX6_read 54 = .ok (.if_icmp .ge 30, 3) := by decide +kernel
theorem dX6_read_57 : decode cX6_read 57 = .ok (.aload_n 0, 1) := by decide +kernel
theorem dX6_read_58 : decode cX6_read 58 = .ok (.getfield 9, 3) := by decide +kernel
theorem dX6_read_61 : decode cX6_read 61 = .ok (.ifCond .ne 23, 3) := by decide +kernel
theorem dX6_read_64 : decode cX6_read 64 = .ok (.aload_n 0, 1) := by decide +kernel
theorem dX6_read_65 : decode cX6_read 65 = .ok (.getfield 31, 3) := by decide +kernel
theorem dX6_read_68 : decode cX6_read 68 = .ok (.sipush 259, 3) := by decide +kernel
theorem dX6_read_71 : decode cX6_read 71 = .ok (.if_icmp .eq 13, 3) := by decide +kernel
theorem dX6_read_74 : decode cX6_read 74 = .ok (.aload_n 0, 1) := by decide +kernel
theorem dX6_read_75 : decode cX6_read 75 = .ok (.invokevirtual 68, 3) := by decide +kernel
theorem dX6_read_78 : decode cX6_read 78 = .ok (.iinc 4 1, 3) := by decide +kernel
theorem dX6_read_81 : decode cX6_read 81 = .ok (.goto (-32), 3) := by decide +kernel
theorem dX6_read_84 : decode cX6_read 84 = .ok (.aload_n 0, 1) := by decide +kernel
theorem dX6_read_85 : decode cX6_read 85 = .ok (.getfield 9, 3) := by decide +kernel
theorem dX6_read_88 : decode cX6_read 88 = .ok (.ireturn, 1) := by decide +kernel
theorem dX6_advance_0 : decode cX6_advance 0 = .ok (.aload_n 0, 1) := by decide +kernel
theorem dX6_advance_1 : decode cX6_advance 1 = .ok (.aload_n 0, 1) := by decide +kernel
theorem dX6_advance_2 : decode cX6_advance 2 = .ok (.getfield 28, 3) := by decide +kernel
theorem dX6_advance_5 : decode cX6_advance 5 = .ok (.putfield 25, 3) := by decide +kernel
theorem dX6_advance_8 : decode cX6_advance 8 = .ok (.aload_n 0, 1) := by decide +kernel
theorem dX6_advance_9 : decode cX6_advance 9 = .ok (.getfield 25, 3) := by decide +kernel
theorem dX6_advance_12 : decode cX6_advance 12 = .ok (.aload_n 0, 1) := by decide +kernel
theorem dX6_advance_13 : decode cX6_advance 13 = .ok (.getfield 22, 3) := by decide +kernel
theorem dX6_advance_16 : decode cX6_advance 16 = .ok (.if_icmp .ge 31, 3) := by decide +kernel
theorem dX6_advance_19 : decode cX6_advance 19 = .ok (.aload_n 0, 1) := by decide +kernel
theorem dX6_advance_20 : decode cX6_advance 20 = .ok (.getfield 18, 3) := by decide +kernel
theorem dX6_advance_23 : decode cX6_advance 23 = .ok (.aload_n 0, 1) := by decide +kernel
theorem dX6_advance_24 : decode cX6_advance 24 = .ok (.getfield 25, 3) := by decide +kernel
theorem dX6_advance_27 : decode cX6_advance 27 = .ok (.iaload, 1) := by decide +kernel
theorem dX6_advance_28 : decode cX6_advance 28 = .ok (.invokestatic 71, 3) := by decide +kernel
theorem dX6_advance_31 : decode cX6_advance 31 = .ok (.ifCond .eq 16, 3) := by decide +kernel
theorem dX6_advance_34 : decode cX6_advance 34 = .ok (.aload_n 0, 1) := by decide +kernel
theorem dX6_advance_35 : decode cX6_advance 35 = .ok (.dup, 1) := by decide +kernel
theorem dX6_advance_36 : decode cX6_advance 36 = .ok (.getfield 25, 3) := by decide +kernel
theorem dX6_advance_39 : decode cX6_advance 39 = .ok (.iconst 1, 1) := by decide +kernel
theorem dX6_advance_40 : decode cX6_advance 40 = .ok (.iadd, 1) := by decide +kernel
theorem dX6_advance_41 : decode cX6_advance 41 = .ok (.putfield 25, 3) := by decide +kernel
theorem dX6_advance_44 : decode cX6_advance 44 = .ok (.goto (-36), 3) := by decide +kernel
theorem dX6_advance_47 : decode cX6_advance 47 = .ok (.aload_n 0, 1) := by decide +kernel
theorem dX6_advance_48 : decode cX6_advance 48 = .ok (.aload_n 0, 1) := by decide +kernel
theorem dX6_advance_49 : decode cX6_advance 49 = .ok (.getfield 25, 3) := by decide +kernel
theorem dX6_advance_52 : decode cX6_advance 52 = .ok (.putfield 28, 3) := by decide +kernel
theorem dX6_advance_55 : decode cX6_advance 55 = .ok (.aload_n 0, 1) := by decide +kernel
theorem dX6_advance_56 : decode cX6_advance 56 = .ok (.getfield 25, 3) := by decide +kernel
theorem dX6_advance_59 : decode cX6_advance 59 = .ok (.aload_n 0, 1) := by decide +kernel
theorem dX6_advance_60 : decode cX6_advance 60 = .ok (.getfield 22, 3) := by decide +kernel
theorem dX6_advance_63 : decode cX6_advance 63 = .ok (.if_icmp .lt 13, 3) := by decide +kernel
theorem dX6_advance_66 : decode cX6_advance 66 = .ok (.aload_n 0, 1) := by decide +kernel
theorem dX6_advance_67 : decode cX6_advance 67 = .ok (.sipush 259, 3) := by decide +kernel
theorem dX6_advance_70 : decode cX6_advance 70 = .ok (.putfield 31, 3) := by decide +kernel
theorem dX6_advance_73 : decode cX6_advance 73 = .ok (.goto 91, 3) := by decide +kernel
theorem dX6_advance_76 : decode cX6_advance 76 = .ok (.aload_n 0, 1) := by decide +kernel
theorem dX6_advance_77 : decode cX6_advance 77 = .ok (.getfield 18, 3) := by decide +kernel
theorem dX6_advance_80 : decode cX6_advance 80 = .ok (.aload_n 0, 1) := by decide +kernel
theorem dX6_advance_81 : decode cX6_advance 81 = .ok (.getfield 25, 3) := by decide +kernel
theorem dX6_advance_84 : decode cX6_advance 84 = .ok (.iaload, 1) := by decide +kernel
theorem dX6_advance_85 : decode cX6_advance 85 = .ok (.invokestatic 75, 3) := by decide +kernel
theorem dX6_advance_88 : decode cX6_advance 88 = .ok (.ifCond .eq 10, 3) := by decide +kernel
theorem dX6_advance_91 : decode cX6_advance 91 = .ok (.aload_n 0, 1) := by decide +kernel
theorem dX6_advance_92 : decode cX6_advance 92 = .ok (.invokevirtual 78, 3) := by decide +kernel
theorem dX6_advance_95 : decode cX6_advance 95 = .ok (.goto 69, 3) := by decide +kernel
theorem dX6_advance_98 : decode cX6_advance 98 = .ok (.aload_n 0, 1) := by decide +kernel
theorem dX6_advance_99 : decode cX6_advance 99 = .ok (.getfield 18, 3) := by decide +kernel
theorem dX6_advance_102 : decode cX6_advance 102 = .ok (.aload_n 0, 1) := by decide +kernel
theorem dX6_advance_103 : decode cX6_advance 103 = .ok (.getfield 25, 3) := by decide +kernel
theorem dX6_advance_106 : decode cX6_advance 106 = .ok (.iaload, 1) := by decide +kernel
theorem dX6_advance_107 : decode cX6_advance 107 = .ok (.invokestatic 81, 3) := by decide +kernel
theorem dX6_advance_110 : decode cX6_advance 110 = .ok (.ifCond .eq 10, 3) := by decide +kernel
theorem dX6_advance_113 : decode cX6_advance 113 = .ok (.aload_n 0, 1) := by decide +kernel
theorem dX6_advance_114 : decode cX6_advance 114 = .ok (.invokevirtual 84, 3) := by decide +kernel
theorem dX6_advance_117 : decode cX6_advance 117 = .ok (.goto 47, 3) := by decide +kernel
theorem dX6_advance_120 : decode cX6_advance 120 = .ok (.aload_n 0, 1) := by decide +kernel
theorem dX6_advance_121 : decode cX6_advance 121 = .ok (.aload_n 0, 1) := by decide +kernel
theorem dX6_advance_122 : decode cX6_advance 122 = .ok (.getfield 18, 3) := by decide +kernel
theorem dX6_advance_125 : decode cX6_advance 125 = .ok (.aload_n 0, 1) := by decide +kernel
theorem dX6_advance_126 : decode cX6_advance 126 = .ok (.getfield 25, 3) := by decide +kernel
theorem dX6_advance_129 : decode cX6_advance 129 = .ok (.iaload, 1) := by decide +kernel
theorem dX6_advance_130 : decode cX6_advance 130 = .ok (.invokestatic 87, 3) := by decide +kernel
theorem dX6_advance_133 : decode cX6_advance 133 = .ok (.ifCond .eq 15, 3) := by decide +kernel
theorem dX6_advance_136 : decode cX6_advance 136 = .ok (.aload_n 0, 1) := by decide +kernel
theorem dX6_advance_137 : decode cX6_advance 137 = .ok (.getfield 18, 3) := by decide +kernel
theorem dX6_advance_140 : decode cX6_advance 140 = .ok (.aload_n 0, 1) := by decide +kernel
theorem dX6_advance_141 : decode cX6_advance 141 = .ok (.getfield 25, 3) := by decide +kernel
theorem dX6_advance_144 : decode cX6_advance 144 = .ok (.iaload, 1) := by decide +kernel
theorem dX6_advance_145 : decode cX6_advance 145 = .ok (.goto 6, 3) := by decide +kernel
theorem dX6_advance_148 : decode cX6_advance 148 = .ok (.sipush 258, 3) := by decide +kernel
theorem dX6_advance_151 : decode cX6_advance 151 = .ok (.putfield 31, 3) := by decide +kernel
theorem dX6_advance_154 : decode cX6_advance 154 = .ok (.aload_n 0, 1) := by decide +kernel
theorem dX6_advance_155 : decode cX6_advance 155 = .ok (.aload_n 0, 1) := by decide +kernel
theorem dX6_advance_156 : decode cX6_advance 156 = .ok (.getfield 25, 3) := by decide +kernel
theorem dX6_advance_159 : decode cX6_advance 159 = .ok (.iconst 1, 1) := by decide +kernel
theorem dX6_advance_160 : decode cX6_advance 160 = .ok (.iadd, 1) := by decide +kernel
theorem dX6_advance_161 : decode cX6_advance 161 = .ok (.putfield 28, 3) := by decide +kernel
theorem dX6_advance_164 : decode cX6_advance 164 = .ok (.return_, 1) := by decide +kernel
theorem dX6_readWord_0 : decode cX6_readWord 0 = .ok (.aload_n 0, 1) := by decide +kernel
theorem dX6_readWord_1 : decode cX6_readWord 1 = .ok (.sipush 256, 3) := by decide +kernel
theorem dX6_readWord_4 : decode cX6_readWord 4 = .ok (.putfield 31, 3) := by decide +kernel
theorem dX6_readWord_7 : decode cX6_readWord 7 = .ok (.aload_n 0, 1) := by decide +kernel
theorem dX6_readWord_8 : decode cX6_readWord 8 = .ok (.getfield 28, 3) := by decide +kernel
theorem dX6_readWord_11 : decode cX6_readWord 11 = .ok (.aload_n 0, 1) := by decide +kernel
theorem dX6_readWord_12 : decode cX6_readWord 12 = .ok (.getfield 22, 3) := by decide +kernel
theorem dX6_readWord_15 : decode cX6_readWord 15 = .ok (.if_icmp .ge 31, 3) := by decide +kernel
theorem dX6_readWord_18 : decode cX6_readWord 18 = .ok (.aload_n 0, 1) := by decide +kernel
theorem dX6_readWord_19 : decode cX6_readWord 19 = .ok (.getfield 18, 3) := by decide +kernel
theorem dX6_readWord_22 : decode cX6_readWord 22 = .ok (.aload_n 0, 1) := by decide +kernel
theorem dX6_readWord_23 : decode cX6_readWord 23 = .ok (.getfield 28, 3) := by decide +kernel
theorem dX6_readWord_26 : decode cX6_readWord 26 = .ok (.iaload, 1) := by decide +kernel
theorem dX6_readWord_27 : decode cX6_readWord 27 = .ok (.invokestatic 75, 3) := by decide +kernel
theorem dX6_readWord_30 : decode cX6_readWord 30 = .ok (.ifCond .eq 16, 3) := by decide +kernel
theorem dX6_readWord_33 : decode cX6_readWord 33 = .ok (.aload_n 0, 1) := by decide +kernel
theorem dX6_readWord_34 : decode cX6_readWord 34 = .ok (.dup, 1) := by decide +kernel
theorem dX6_readWord_35 : decode cX6_readWord 35 = .ok (.getfield 28, 3) := by decide +kernel
theorem dX6_readWord_38 : decode cX6_readWord 38 = .ok (.iconst 1, 1) := by decide +kernel
theorem dX6_readWord_39 : decode cX6_readWord 39 = .ok (.iadd, 1) := by decide +kernel
theorem dX6_readWord_40 : decode cX6_readWord 40 = .ok (.putfield 28, 3) := by decide +kernel
theorem dX6_readWord_43 : decode cX6_readWord 43 = .ok (.goto (-36), 3) := by decide +kernel
theorem dX6_readWord_46 : decode cX6_readWord 46 = .ok (.return_, 1) := by decide +kernel
theorem dX6_readNumber_0 : decode cX6_readNumber 0 = .ok (.aload_n 0, 1) := by decide +kernel
theorem dX6_readNumber_1 : decode cX6_readNumber 1 = .ok (.sipush 257, 3) := by decide +kernel
theorem dX6_readNumber_4 : decode cX6_readNumber 4 = .ok (.putfield 31, 3) := by decide +kernel
theorem dX6_readNumber_7 : decode cX6_readNumber 7 = .ok (.aload_n 0, 1) := by decide +kernel
theorem dX6_readNumber_8 : decode cX6_readNumber 8 = .ok (.iconst 0, 1) := by decide +kernel
theorem dX6_readNumber_9 : decode cX6_readNumber 9 = .ok (.putfield 34, 3) := by decide +kernel
theorem dX6_readNumber_12 : decode cX6_readNumber 12 = .ok (.aload_n 0, 1) := by decide +kernel
theorem dX6_readNumber_13 : decode cX6_readNumber 13 = .ok (.getfield 28, 3) := by decide +kernel
theorem dX6_readNumber_16 : decode cX6_readNumber 16 = .ok (.aload_n 0, 1) := by decide +kernel
theorem dX6_readNumber_17 : decode cX6_readNumber 17 = .ok (.getfield 22, 3) := by decide +kernel
theorem dX6_readNumber_20 : decode cX6_readNumber 20 = .ok (.if_icmp .ge 75, 3) := by decide +kernel
theorem dX6_readNumber_23 : decode cX6_readNumber 23 = .ok (.aload_n 0, 1) := by decide +kernel
theorem dX6_readNumber_24 : decode cX6_readNumber 24 = .ok (.getfield 18, 3) := by decide +kernel
theorem dX6_readNumber_27 : decode cX6_readNumber 27 = .ok (.aload_n 0, 1) := by decide +kernel
theorem dX6_readNumber_28 : decode cX6_readNumber 28 = .ok (.getfield 28, 3) := by decide +kernel
theorem dX6_readNumber_31 : decode cX6_readNumber 31 = .ok (.iaload, 1) := by decide +kernel
theorem dX6_readNumber_32 : decode cX6_readNumber 32 = .ok (.invokestatic 81, 3) := by decide +kernel
theorem dX6_readNumber_35 : decode cX6_readNumber 35 = .ok (.ifCond .eq 60, 3) := by decide +kernel
theorem dX6_readNumber_38 : decode cX6_readNumber 38 = .ok (.aload_n 0, 1) := by decide +kernel
theorem dX6_readNumber_39 : decode cX6_readNumber 39 = .ok (.aload_n 0, 1) := by decide +kernel
theorem dX6_readNumber_40 : decode cX6_readNumber 40 = .ok (.getfield 28, 3) := by decide +kernel
theorem dX6_readNumber_43 : decode cX6_readNumber 43 = .ok (.aload_n 0, 1) := by decide +kernel
theorem dX6_readNumber_44 : decode cX6_readNumber 44 = .ok (.getfield 25, 3) := by decide +kernel
theorem dX6_readNumber_47 : decode cX6_readNumber 47 = .ok (.isub, 1) := by decide +kernel
theorem dX6_readNumber_48 : decode cX6_readNumber 48 = .ok (.iconst 4, 1) := by decide +kernel
theorem dX6_readNumber_49 : decode cX6_readNumber 49 = .ok (.if_icmp .ge 26, 3) := by decide +kernel
theorem dX6_readNumber_52 : decode cX6_readNumber 52 = .ok (.bipush 10, 2) := by decide +kernel
theorem dX6_readNumber_54 : decode cX6_readNumber 54 = .ok (.aload_n 0, 1) := by decide +kernel
theorem dX6_readNumber_55 : decode cX6_readNumber 55 = .ok (.getfield 34, 3) := by decide +kernel
theorem dX6_readNumber_58 : decode cX6_readNumber 58 = .ok (.imul, 1) := by decide +kernel
theorem dX6_readNumber_59 : decode cX6_readNumber 59 = .ok (.aload_n 0, 1) := by decide +kernel
theorem dX6_readNumber_60 : decode cX6_readNumber 60 = .ok (.getfield 18, 3) := by decide +kernel
theorem dX6_readNumber_63 : decode cX6_readNumber 63 = .ok (.aload_n 0, 1) := by decide +kernel
theorem dX6_readNumber_64 : decode cX6_readNumber 64 = .ok (.getfield 28, 3) := by decide +kernel
theorem dX6_readNumber_67 : decode cX6_readNumber 67 = .ok (.iaload, 1) := by decide +kernel
theorem dX6_readNumber_68 : decode cX6_readNumber 68 = .ok (.iadd, 1) := by decide +kernel
theorem dX6_readNumber_69 : decode cX6_readNumber 69 = .ok (.bipush 48, 2) := by decide +kernel
theorem dX6_readNumber_71 : decode cX6_readNumber 71 = .ok (.isub, 1) := by decide +kernel
theorem dX6_readNumber_72 : decode cX6_readNumber 72 = .ok (.goto 7, 3) := by decide +kernel
theorem dX6_readNumber_75 : decode cX6_readNumber 75 = .ok (.aload_n 0, 1) := by decide +kernel
theorem dX6_readNumber_76 : decode cX6_readNumber 76 = .ok (.getfield 34, 3) := by decide +kernel
theorem dX6_readNumber_79 : decode cX6_readNumber 79 = .ok (.putfield 34, 3) := by decide +kernel
theorem dX6_readNumber_82 : decode cX6_readNumber 82 = .ok (.aload_n 0, 1) := by decide +kernel
theorem dX6_readNumber_83 : decode cX6_readNumber 83 = .ok (.dup, 1) := by decide +kernel
theorem dX6_readNumber_84 : decode cX6_readNumber 84 = .ok (.getfield 28, 3) := by decide +kernel
theorem dX6_readNumber_87 : decode cX6_readNumber 87 = .ok (.iconst 1, 1) := by decide +kernel
theorem dX6_readNumber_88 : decode cX6_readNumber 88 = .ok (.iadd, 1) := by decide +kernel
theorem dX6_readNumber_89 : decode cX6_readNumber 89 = .ok (.putfield 28, 3) := by decide +kernel
theorem dX6_readNumber_92 : decode cX6_readNumber 92 = .ok (.goto (-80), 3) := by decide +kernel
theorem dX6_readNumber_95 : decode cX6_readNumber 95 = .ok (.return_, 1) := by decide +kernel
theorem dX6_isBlank_0 : decode cX6_isBlank 0 = .ok (.iload_n 0, 1) := by decide +kernel
theorem dX6_isBlank_1 : decode cX6_isBlank 1 = .ok (.bipush 32, 2) := by decide +kernel
theorem dX6_isBlank_3 : decode cX6_isBlank 3 = .ok (.if_icmp .eq 9, 3) := by decide +kernel
theorem dX6_isBlank_6 : decode cX6_isBlank 6 = .ok (.iload_n 0, 1) := by decide +kernel
theorem dX6_isBlank_7 : decode cX6_isBlank 7 = .ok (.bipush 10, 2) := by decide +kernel
theorem dX6_isBlank_9 : decode cX6_isBlank 9 = .ok (.if_icmp .ne 7, 3) := by decide +kernel
theorem dX6_isBlank_12 : decode cX6_isBlank 12 = .ok (.iconst 1, 1) := by decide +kernel
theorem dX6_isBlank_13 : decode cX6_isBlank 13 = .ok (.goto 4, 3) := by decide +kernel
theorem dX6_isBlank_16 : decode cX6_isBlank 16 = .ok (.iconst 0, 1) := by decide +kernel
theorem dX6_isBlank_17 : decode cX6_isBlank 17 = .ok (.ireturn, 1) := by decide +kernel
theorem dX6_isLetter_0 : decode cX6_isLetter 0 = .ok (.iload_n 0, 1) := by decide +kernel
theorem dX6_isLetter_1 : decode cX6_isLetter 1 = .ok (.bipush 97, 2) := by decide +kernel
theorem dX6_isLetter_3 : decode cX6_isLetter 3 = .ok (.if_icmp .lt 13, 3) := by decide +kernel
theorem dX6_isLetter_6 : decode cX6_isLetter 6 = .ok (.iload_n 0, 1) := by decide +kernel
theorem dX6_isLetter_7 : decode cX6_isLetter 7 = .ok (.bipush 122, 2) := by decide +kernel
theorem dX6_isLetter_9 : decode cX6_isLetter 9 = .ok (.if_icmp .gt 7, 3) := by decide +kernel
theorem dX6_isLetter_12 : decode cX6_isLetter 12 = .ok (.iconst 1, 1) := by decide +kernel
theorem dX6_isLetter_13 : decode cX6_isLetter 13 = .ok (.goto 4, 3) := by decide +kernel
theorem dX6_isLetter_16 : decode cX6_isLetter 16 = .ok (.iconst 0, 1) := by decide +kernel
theorem dX6_isLetter_17 : decode cX6_isLetter 17 = .ok (.ireturn, 1) := by decide +kernel
theorem dX6_isDigit_0 : decode cX6_isDigit 0 = .ok (.iload_n 0, 1) := by decide +kernel
theorem dX6_isDigit_1 : decode cX6_isDigit 1 = .ok (.bipush 48, 2) := by decide +kernel
theorem dX6_isDigit_3 : decode cX6_isDigit 3 = .ok (.if_icmp .lt 13, 3) := by decide +kernel
theorem dX6_isDigit_6 : decode cX6_isDigit 6 = .ok (.iload_n 0, 1) := by decide +kernel
theorem dX6_isDigit_7 : decode cX6_isDigit 7 = .ok (.bipush 57, 2) := by decide +kernel
theorem dX6_isDigit_9 : decode cX6_isDigit 9 = .ok (.if_icmp .gt 7, 3) := by decide +kernel
theorem dX6_isDigit_12 : decode cX6_isDigit 12 = .ok (.iconst 1, 1) := by decide +kernel
theorem dX6_isDigit_13 : decode cX6_isDigit 13 = .ok (.goto 4, 3) := by decide +kernel
theorem dX6_isDigit_16 : decode cX6_isDigit 16 = .ok (.iconst 0, 1) := by decide +kernel
theorem dX6_isDigit_17 : decode cX6_isDigit 17 = .ok (.ireturn, 1) := by decide +kernel
theorem dX6_isSign_0 : decode cX6_isSign 0 = .ok (.iload_n 0, 1) := by decide +kernel
theorem dX6_isSign_1 : decode cX6_isSign 1 = .ok (.ifCond .le 24, 3) := by decide +kernel
theorem dX6_isSign_4 : decode cX6_isSign 4 = .ok (.iload_n 0, 1) := by decide +kernel
theorem dX6_isSign_5 : decode cX6_isSign 5 = .ok (.sipush 128, 3) := by decide +kernel
theorem dX6_isSign_8 : decode cX6_isSign 8 = .ok (.if_icmp .ge 17, 3) := by decide +kernel
theorem dX6_isSign_11 : decode cX6_isSign 11 = .ok (.ldc 90, 2) := by decide +kernel
theorem dX6_isSign_13 : decode cX6_isSign 13 = .ok (.iload_n 0, 1) := by decide +kernel
theorem dX6_isSign_14 : decode cX6_isSign 14 = .ok (.i2c, 1) := by decide +kernel
theorem dX6_isSign_15 : decode cX6_isSign 15 = .ok (.invokevirtual 92, 3) := by decide +kernel
theorem dX6_isSign_18 : decode cX6_isSign 18 = .ok (.ifCond .lt 7, 3) := by decide +kernel
theorem dX6_isSign_21 : decode cX6_isSign 21 = .ok (.iconst 1, 1) := by decide +kernel
theorem dX6_isSign_22 : decode cX6_isSign 22 = .ok (.goto 4, 3) := by decide +kernel
theorem dX6_isSign_25 : decode cX6_isSign 25 = .ok (.iconst 0, 1) := by decide +kernel
theorem dX6_isSign_26 : decode cX6_isSign 26 = .ok (.ireturn, 1) := by decide +kernel
theorem dX6_isWord_0 : decode cX6_isWord 0 = .ok (.aload_n 0, 1) := by decide +kernel
theorem dX6_isWord_1 : decode cX6_isWord 1 = .ok (.getfield 31, 3) := by decide +kernel
theorem dX6_isWord_4 : decode cX6_isWord 4 = .ok (.sipush 256, 3) := by decide +kernel
theorem dX6_isWord_7 : decode cX6_isWord 7 = .ok (.if_icmp .ne 20, 3) := by decide +kernel
theorem dX6_isWord_10 : decode cX6_isWord 10 = .ok (.aload_n 0, 1) := by decide +kernel
theorem dX6_isWord_11 : decode cX6_isWord 11 = .ok (.aload_n 1, 1) := by decide +kernel
theorem dX6_isWord_12 : decode cX6_isWord 12 = .ok (.iconst 0, 1) := by decide +kernel
theorem dX6_isWord_13 : decode cX6_isWord 13 = .ok (.aload_n 1, 1) := by decide +kernel
theorem dX6_isWord_14 : decode cX6_isWord 14 = .ok (.invokevirtual 98, 3) := by decide +kernel
theorem dX6_isWord_17 : decode cX6_isWord 17 = .ok (.invokevirtual 101, 3) := by decide +kernel
theorem dX6_isWord_20 : decode cX6_isWord 20 = .ok (.ifCond .eq 7, 3) := by decide +kernel
theorem dX6_isWord_23 : decode cX6_isWord 23 = .ok (.iconst 1, 1) := by decide +kernel
theorem dX6_isWord_24 : decode cX6_isWord 24 = .ok (.goto 4, 3) := by decide +kernel
theorem dX6_isWord_27 : decode cX6_isWord 27 = .ok (.iconst 0, 1) := by decide +kernel
theorem dX6_isWord_28 : decode cX6_isWord 28 = .ok (.ireturn, 1) := by decide +kernel
theorem dX6_isAt_0 : decode cX6_isAt 0 = .ok (.iload_n 3, 1) := by decide +kernel
theorem dX6_isAt_1 : decode cX6_isAt 1 = .ok (.iload_n 2, 1) := by decide +kernel
theorem dX6_isAt_2 : decode cX6_isAt 2 = .ok (.isub, 1) := by decide +kernel
theorem dX6_isAt_3 : decode cX6_isAt 3 = .ok (.aload_n 0, 1) := by decide +kernel
theorem dX6_isAt_4 : decode cX6_isAt 4 = .ok (.getfield 28, 3) := by decide +kernel
theorem dX6_isAt_7 : decode cX6_isAt 7 = .ok (.aload_n 0, 1) := by decide +kernel
theorem dX6_isAt_8 : decode cX6_isAt 8 = .ok (.getfield 25, 3) := by decide +kernel
theorem dX6_isAt_11 : decode cX6_isAt 11 = .ok (.isub, 1) := by decide +kernel
theorem dX6_isAt_12 : decode cX6_isAt 12 = .ok (.if_icmp .eq 5, 3) := by decide +kernel
theorem dX6_isAt_15 : decode cX6_isAt 15 = .ok (.iconst 0, 1) := by decide +kernel
theorem dX6_isAt_16 : decode cX6_isAt 16 = .ok (.ireturn, 1) := by decide +kernel
theorem dX6_isAt_17 : decode cX6_isAt 17 = .ok (.iload_n 2, 1) := by decide +kernel
theorem dX6_isAt_18 : decode cX6_isAt 18 = .ok (.istore 4, 2) := by decide +kernel
theorem dX6_isAt_20 : decode cX6_isAt 20 = .ok (.iload 4, 2) := by decide +kernel
theorem dX6_isAt_22 : decode cX6_isAt 22 = .ok (.iload_n 3, 1) := by decide +kernel
theorem dX6_isAt_23 : decode cX6_isAt 23 = .ok (.if_icmp .ge 34, 3) := by decide +kernel
theorem dX6_isAt_26 : decode cX6_isAt 26 = .ok (.aload_n 1, 1) := by decide +kernel
theorem dX6_isAt_27 : decode cX6_isAt 27 = .ok (.iload 4, 2) := by decide +kernel
theorem dX6_isAt_29 : decode cX6_isAt 29 = .ok (.invokevirtual 105, 3) := by decide +kernel
theorem dX6_isAt_32 : decode cX6_isAt 32 = .ok (.aload_n 0, 1) := by decide +kernel
theorem dX6_isAt_33 : decode cX6_isAt 33 = .ok (.getfield 18, 3) := by decide +kernel
theorem dX6_isAt_36 : decode cX6_isAt 36 = .ok (.aload_n 0, 1) := by decide +kernel
theorem dX6_isAt_37 : decode cX6_isAt 37 = .ok (.getfield 25, 3) := by decide +kernel
theorem dX6_isAt_40 : decode cX6_isAt 40 = .ok (.iload 4, 2) := by decide +kernel
theorem dX6_isAt_42 : decode cX6_isAt 42 = .ok (.iadd, 1) := by decide +kernel
theorem dX6_isAt_43 : decode cX6_isAt 43 = .ok (.iload_n 2, 1) := by decide +kernel
theorem dX6_isAt_44 : decode cX6_isAt 44 = .ok (.isub, 1) := by decide +kernel
theorem dX6_isAt_45 : decode cX6_isAt 45 = .ok (.iaload, 1) := by decide +kernel
theorem dX6_isAt_46 : decode cX6_isAt 46 = .ok (.if_icmp .eq 5, 3) := by decide +kernel
theorem dX6_isAt_49 : decode cX6_isAt 49 = .ok (.iconst 0, 1) := by decide +kernel
theorem dX6_isAt_50 : decode cX6_isAt 50 = .ok (.ireturn, 1) := by decide +kernel
theorem dX6_isAt_51 : decode cX6_isAt 51 = .ok (.iinc 4 1, 3) := by decide +kernel
theorem dX6_isAt_54 : decode cX6_isAt 54 = .ok (.goto (-34), 3) := by decide +kernel
theorem dX6_isAt_57 : decode cX6_isAt 57 = .ok (.iconst 1, 1) := by decide +kernel
theorem dX6_isAt_58 : decode cX6_isAt 58 = .ok (.ireturn, 1) := by decide +kernel
theorem dX6_wordOf_0 : decode cX6_wordOf 0 = .ok (.iconst 0, 1) := by decide +kernel
theorem dX6_wordOf_1 : decode cX6_wordOf 1 = .ok (.istore_n 2, 1) := by decide +kernel
theorem dX6_wordOf_2 : decode cX6_wordOf 2 = .ok (.iconst 0, 1) := by decide +kernel
theorem dX6_wordOf_3 : decode cX6_wordOf 3 = .ok (.istore_n 3, 1) := by decide +kernel
theorem dX6_wordOf_4 : decode cX6_wordOf 4 = .ok (.iconst 0, 1) := by decide +kernel
theorem dX6_wordOf_5 : decode cX6_wordOf 5 = .ok (.istore 4, 2) := by decide +kernel
theorem dX6_wordOf_7 : decode cX6_wordOf 7 = .ok (.iload 4, 2) := by decide +kernel
theorem dX6_wordOf_9 : decode cX6_wordOf 9 = .ok (.aload_n 1, 1) := by decide +kernel
theorem dX6_wordOf_10 : decode cX6_wordOf 10 = .ok (.invokevirtual 98, 3) := by decide +kernel
theorem dX6_wordOf_13 : decode cX6_wordOf 13 = .ok (.if_icmp .gt 60, 3) := by decide +kernel
theorem dX6_wordOf_16 : decode cX6_wordOf 16 = .ok (.iload 4, 2) := by decide +kernel
theorem dX6_wordOf_18 : decode cX6_wordOf 18 = .ok (.aload_n 1, 1) := by decide +kernel
theorem dX6_wordOf_19 : decode cX6_wordOf 19 = .ok (.invokevirtual 98, 3) := by decide +kernel
theorem dX6_wordOf_22 : decode cX6_wordOf 22 = .ok (.if_icmp .eq 14, 3) := by decide +kernel
theorem dX6_wordOf_25 : decode cX6_wordOf 25 = .ok (.aload_n 1, 1) := by decide +kernel
theorem dX6_wordOf_26 : decode cX6_wordOf 26 = .ok (.iload 4, 2) := by decide +kernel
theorem dX6_wordOf_28 : decode cX6_wordOf 28 = .ok (.invokevirtual 105, 3) := by decide +kernel
theorem dX6_wordOf_31 : decode cX6_wordOf 31 = .ok (.bipush 32, 2) := by decide +kernel
theorem dX6_wordOf_33 : decode cX6_wordOf 33 = .ok (.if_icmp .ne 34, 3) := by decide +kernel
theorem dX6_wordOf_36 : decode cX6_wordOf 36 = .ok (.aload_n 0, 1) := by decide +kernel
theorem dX6_wordOf_37 : decode cX6_wordOf 37 = .ok (.getfield 31, 3) := by decide +kernel
theorem dX6_wordOf_40 : decode cX6_wordOf 40 = .ok (.sipush 256, 3) := by decide +kernel
theorem dX6_wordOf_43 : decode cX6_wordOf 43 = .ok (.if_icmp .ne 16, 3) := by decide +kernel
theorem dX6_wordOf_46 : decode cX6_wordOf 46 = .ok (.aload_n 0, 1) := by decide +kernel
theorem dX6_wordOf_47 : decode cX6_wordOf 47 = .ok (.aload_n 1, 1) := by decide +kernel
theorem dX6_wordOf_48 : decode cX6_wordOf 48 = .ok (.iload_n 3, 1) := by decide +kernel
theorem dX6_wordOf_49 : decode cX6_wordOf 49 = .ok (.iload 4, 2) := by decide +kernel
theorem dX6_wordOf_51 : decode cX6_wordOf 51 = .ok (.invokevirtual 101, 3) := by decide +kernel
theorem dX6_wordOf_54 : decode cX6_wordOf 54 = .ok (.ifCond .eq 5, 3) := by decide +kernel
theorem dX6_wordOf_57 : decode cX6_wordOf 57 = .ok (.iload_n 2, 1) := by decide +kernel
theorem dX6_wordOf_58 : decode cX6_wordOf 58 = .ok (.ireturn, 1) := by decide +kernel
theorem dX6_wordOf_59 : decode cX6_wordOf 59 = .ok (.iinc 2 1, 3) := by decide +kernel
theorem dX6_wordOf_62 : decode cX6_wordOf 62 = .ok (.iload 4, 2) := by decide +kernel
theorem dX6_wordOf_64 : decode cX6_wordOf 64 = .ok (.iconst 1, 1) := by decide +kernel
theorem dX6_wordOf_65 : decode cX6_wordOf 65 = .ok (.iadd, 1) := by decide +kernel
theorem dX6_wordOf_66 : decode cX6_wordOf 66 = .ok (.istore_n 3, 1) := by decide +kernel
theorem dX6_wordOf_67 : decode cX6_wordOf 67 = .ok (.iinc 4 1, 3) := by decide +kernel
theorem dX6_wordOf_70 : decode cX6_wordOf 70 = .ok (.goto (-63), 3) := by decide +kernel
theorem dX6_wordOf_73 : decode cX6_wordOf 73 = .ok (.iconst (-1), 1) := by decide +kernel
theorem dX6_wordOf_74 : decode cX6_wordOf 74 = .ok (.ireturn, 1) := by decide +kernel
theorem dX6_refuse_0 : decode cX6_refuse 0 = .ok (.aload_n 0, 1) := by decide +kernel
theorem dX6_refuse_1 : decode cX6_refuse 1 = .ok (.getfield 9, 3) := by decide +kernel
theorem dX6_refuse_4 : decode cX6_refuse 4 = .ok (.ifCond .ne 16, 3) := by decide +kernel
theorem dX6_refuse_7 : decode cX6_refuse 7 = .ok (.aload_n 0, 1) := by decide +kernel
theorem dX6_refuse_8 : decode cX6_refuse 8 = .ok (.iload_n 1, 1) := by decide +kernel
theorem dX6_refuse_9 : decode cX6_refuse 9 = .ok (.putfield 9, 3) := by decide +kernel
theorem dX6_refuse_12 : decode cX6_refuse 12 = .ok (.aload_n 0, 1) := by decide +kernel
theorem dX6_refuse_13 : decode cX6_refuse 13 = .ok (.aload_n 0, 1) := by decide +kernel
theorem dX6_refuse_14 : decode cX6_refuse 14 = .ok (.getfield 25, 3) := by decide +kernel
theorem dX6_refuse_17 : decode cX6_refuse 17 = .ok (.putfield 15, 3) := by decide +kernel
theorem dX6_refuse_20 : decode cX6_refuse 20 = .ok (.return_, 1) := by decide +kernel
theorem dX6_pass_0 : decode cX6_pass 0 = .ok (.aload_n 0, 1) := by decide +kernel
theorem dX6_pass_1 : decode cX6_pass 1 = .ok (.getfield 9, 3) := by decide +kernel
theorem dX6_pass_4 : decode cX6_pass 4 = .ok (.ifCond .eq 4, 3) := by decide +kernel
theorem dX6_pass_7 : decode cX6_pass 7 = .ok (.return_, 1) := by decide +kernel
theorem dX6_pass_8 : decode cX6_pass 8 = .ok (.aload_n 0, 1) := by decide +kernel
theorem dX6_pass_9 : decode cX6_pass 9 = .ok (.getfield 31, 3) := by decide +kernel
theorem dX6_pass_12 : decode cX6_pass 12 = .ok (.iload_n 1, 1) := by decide +kernel
theorem dX6_pass_13 : decode cX6_pass 13 = .ok (.if_icmp .eq 11, 3) := by decide +kernel
theorem dX6_pass_16 : decode cX6_pass 16 = .ok (.aload_n 0, 1) := by decide +kernel
theorem dX6_pass_17 : decode cX6_pass 17 = .ok (.iconst 1, 1) := by decide +kernel
theorem dX6_pass_18 : decode cX6_pass 18 = .ok (.invokevirtual 109, 3) := by decide +kernel
theorem dX6_pass_21 : decode cX6_pass 21 = .ok (.goto 7, 3) := by decide +kernel
theorem dX6_pass_24 : decode cX6_pass 24 = .ok (.aload_n 0, 1) := by decide +kernel
theorem dX6_pass_25 : decode cX6_pass 25 = .ok (.invokevirtual 65, 3) := by decide +kernel
theorem dX6_pass_28 : decode cX6_pass 28 = .ok (.return_, 1) := by decide +kernel
theorem dX6_numberBelow_0 : decode cX6_numberBelow 0 = .ok (.aload_n 0, 1) := by decide +kernel
theorem dX6_numberBelow_1 : decode cX6_numberBelow 1 = .ok (.getfield 9, 3) := by decide +kernel
theorem dX6_numberBelow_4 : decode cX6_numberBelow 4 = .ok (.ifCond .eq 5, 3) := by decide +kernel
theorem dX6_numberBelow_7 : decode cX6_numberBelow 7 = .ok (.iconst 0, 1) := by decide +kernel
theorem dX6_numberBelow_8 : decode cX6_numberBelow 8 = .ok (.ireturn, 1) := by decide +kernel
theorem dX6_numberBelow_9 : decode cX6_numberBelow 9 = .ok (.aload_n 0, 1) := by decide +kernel
theorem dX6_numberBelow_10 : decode cX6_numberBelow 10 = .ok (.getfield 31, 3) := by decide +kernel
theorem dX6_numberBelow_13 : decode cX6_numberBelow 13 = .ok (.sipush 257, 3) := by decide +kernel
theorem dX6_numberBelow_16 : decode cX6_numberBelow 16 = .ok (.if_icmp .eq 11, 3) := by decide +kernel
theorem dX6_numberBelow_19 : decode cX6_numberBelow 19 = .ok (.aload_n 0, 1) := by decide +kernel
theorem dX6_numberBelow_20 : decode cX6_numberBelow 20 = .ok (.iconst 1, 1) := by decide +kernel
theorem dX6_numberBelow_21 : decode cX6_numberBelow 21 = .ok (.invokevirtual 109, 3) := by decide +kernel
theorem dX6_numberBelow_24 : decode cX6_numberBelow 24 = .ok (.goto 37, 3) := by decide +kernel
theorem dX6_numberBelow_27 : decode cX6_numberBelow 27 = .ok (.aload_n 0, 1) := by decide +kernel
theorem dX6_numberBelow_28 : decode cX6_numberBelow 28 = .ok (.getfield 28, 3) := by decide +kernel
theorem dX6_numberBelow_31 : decode cX6_numberBelow 31 = .ok (.aload_n 0, 1) := by decide +kernel
theorem dX6_numberBelow_32 : decode cX6_numberBelow 32 = .ok (.getfield 25, 3) := by decide +kernel
theorem dX6_numberBelow_35 : decode cX6_numberBelow 35 = .ok (.isub, 1) := by decide +kernel
theorem dX6_numberBelow_36 : decode cX6_numberBelow 36 = .ok (.iconst 4, 1) := by decide +kernel
theorem dX6_numberBelow_37 : decode cX6_numberBelow 37 = .ok (.if_icmp .le 11, 3) := by decide +kernel
theorem dX6_numberBelow_40 : decode cX6_numberBelow 40 = .ok (.aload_n 0, 1) := by decide +kernel
theorem dX6_numberBelow_41 : decode cX6_numberBelow 41 = .ok (.iconst 2, 1) := by decide +kernel
theorem dX6_numberBelow_42 : decode cX6_numberBelow 42 = .ok (.invokevirtual 109, 3) := by decide +kernel
theorem dX6_numberBelow_45 : decode cX6_numberBelow 45 = .ok (.goto 16, 3) := by decide +kernel
theorem dX6_numberBelow_48 : decode cX6_numberBelow 48 = .ok (.aload_n 0, 1) := by decide +kernel
theorem dX6_numberBelow_49 : decode cX6_numberBelow 49 = .ok (.getfield 34, 3) := by decide +kernel
theorem dX6_numberBelow_52 : decode cX6_numberBelow 52 = .ok (.iload_n 1, 1) := by decide +kernel
theorem dX6_numberBelow_53 : decode cX6_numberBelow 53 = .ok (.if_icmp .lt 8, 3) := by decide +kernel
theorem dX6_numberBelow_56 : decode cX6_numberBelow 56 = .ok (.aload_n 0, 1) := by decide +kernel
theorem dX6_numberBelow_57 : decode cX6_numberBelow 57 = .ok (.iload_n 2, 1) := by decide +kernel
theorem dX6_numberBelow_58 : decode cX6_numberBelow 58 = .ok (.invokevirtual 109, 3) := by decide +kernel
theorem dX6_numberBelow_61 : decode cX6_numberBelow 61 = .ok (.aload_n 0, 1) := by decide +kernel
theorem dX6_numberBelow_62 : decode cX6_numberBelow 62 = .ok (.getfield 9, 3) := by decide +kernel
theorem dX6_numberBelow_65 : decode cX6_numberBelow 65 = .ok (.ifCond .ne 10, 3) := by decide +kernel
theorem dX6_numberBelow_68 : decode cX6_numberBelow 68 = .ok (.aload_n 0, 1) := by decide +kernel
theorem dX6_numberBelow_69 : decode cX6_numberBelow 69 = .ok (.getfield 34, 3) := by decide +kernel
theorem dX6_numberBelow_72 : decode cX6_numberBelow 72 = .ok (.goto 4, 3) := by decide +kernel
theorem dX6_numberBelow_75 : decode cX6_numberBelow 75 = .ok (.iconst 0, 1) := by decide +kernel
theorem dX6_numberBelow_76 : decode cX6_numberBelow 76 = .ok (.ireturn, 1) := by decide +kernel
theorem dX6_readLine_0 : decode cX6_readLine 0 = .ok (.aload_n 0, 1) := by decide +kernel
theorem dX6_readLine_1 : decode cX6_readLine 1 = .ok (.ldc 113, 2) := by decide +kernel
theorem dX6_readLine_3 : decode cX6_readLine 3 = .ok (.invokevirtual 115, 3) := by decide +kernel
theorem dX6_readLine_6 : decode cX6_readLine 6 = .ok (.tableswitch 87 0 4 #[34, 41, 48, 55, 71], 34) := by decide +kernel
theorem dX6_readLine_40 : decode cX6_readLine 40 = .ok (.aload_n 0, 1) := by decide +kernel
theorem dX6_readLine_41 : decode cX6_readLine 41 = .ok (.invokevirtual 119, 3) := by decide +kernel
theorem dX6_readLine_44 : decode cX6_readLine 44 = .ok (.goto 54, 3) := by decide +kernel
theorem dX6_readLine_47 : decode cX6_readLine 47 = .ok (.aload_n 0, 1) := by decide +kernel
theorem dX6_readLine_48 : decode cX6_readLine 48 = .ok (.invokevirtual 122, 3) := by decide +kernel
theorem dX6_readLine_51 : decode cX6_readLine 51 = .ok (.goto 47, 3) := by decide +kernel
theorem dX6_readLine_54 : decode cX6_readLine 54 = .ok (.aload_n 0, 1) := by decide +kernel
theorem dX6_readLine_55 : decode cX6_readLine 55 = .ok (.invokevirtual 125, 3) := by decide +kernel
theorem dX6_readLine_58 : decode cX6_readLine 58 = .ok (.goto 40, 3) := by decide +kernel
theorem dX6_readLine_61 : decode cX6_readLine 61 = .ok (.aload_n 0, 1) := by decide +kernel
theorem dX6_readLine_62 : decode cX6_readLine 62 = .ok (.aload_n 0, 1) := by decide +kernel
theorem dX6_readLine_63 : decode cX6_readLine 63 = .ok (.getfield 43, 3) := by decide +kernel
theorem dX6_readLine_66 : decode cX6_readLine 66 = .ok (.getfield 47, 3) := by decide +kernel
theorem dX6_readLine_69 : decode cX6_readLine 69 = .ok (.ldc 37, 2) := by decide +kernel
theorem dX6_readLine_71 : decode cX6_readLine 71 = .ok (.invokevirtual 128, 3) := by decide +kernel
theorem dX6_readLine_74 : decode cX6_readLine 74 = .ok (.goto 24, 3) := by decide +kernel
theorem dX6_readLine_77 : decode cX6_readLine 77 = .ok (.aload_n 0, 1) := by decide +kernel
theorem dX6_readLine_78 : decode cX6_readLine 78 = .ok (.aload_n 0, 1) := by decide +kernel
theorem dX6_readLine_79 : decode cX6_readLine 79 = .ok (.getfield 43, 3) := by decide +kernel
theorem dX6_readLine_82 : decode cX6_readLine 82 = .ok (.getfield 132, 3) := by decide +kernel
theorem dX6_readLine_85 : decode cX6_readLine 85 = .ok (.ldc 135, 2) := by decide +kernel
theorem dX6_readLine_87 : decode cX6_readLine 87 = .ok (.invokevirtual 128, 3) := by decide +kernel
theorem dX6_readLine_90 : decode cX6_readLine 90 = .ok (.goto 8, 3) := by decide +kernel
theorem dX6_readLine_93 : decode cX6_readLine 93 = .ok (.aload_n 0, 1) := by decide +kernel
theorem dX6_readLine_94 : decode cX6_readLine 94 = .ok (.iconst 1, 1) := by decide +kernel
theorem dX6_readLine_95 : decode cX6_readLine 95 = .ok (.invokevirtual 109, 3) := by decide +kernel
theorem dX6_readLine_98 : decode cX6_readLine 98 = .ok (.aload_n 0, 1) := by decide +kernel
theorem dX6_readLine_99 : decode cX6_readLine 99 = .ok (.bipush 59, 2) := by decide +kernel
theorem dX6_readLine_101 : decode cX6_readLine 101 = .ok (.invokevirtual 137, 3) := by decide +kernel
theorem dX6_readLine_104 : decode cX6_readLine 104 = .ok (.return_, 1) := by decide +kernel
theorem dX6_readDeed_0 : decode cX6_readDeed 0 = .ok (.aload_n 0, 1) := by decide +kernel
theorem dX6_readDeed_1 : decode cX6_readDeed 1 = .ok (.getfield 43, 3) := by decide +kernel
theorem dX6_readDeed_4 : decode cX6_readDeed 4 = .ok (.getfield 140, 3) := by decide +kernel
theorem dX6_readDeed_7 : decode cX6_readDeed 7 = .ok (.istore_n 1, 1) := by decide +kernel
theorem dX6_readDeed_8 : decode cX6_readDeed 8 = .ok (.iload_n 1, 1) := by decide +kernel
theorem dX6_readDeed_9 : decode cX6_readDeed 9 = .ok (.bipush 6, 2) := by decide +kernel
theorem dX6_readDeed_11 : decode cX6_readDeed 11 = .ok (.if_icmp .lt 9, 3) := by decide +kernel
theorem dX6_readDeed_14 : decode cX6_readDeed 14 = .ok (.aload_n 0, 1) := by decide +kernel
theorem dX6_readDeed_15 : decode cX6_readDeed 15 = .ok (.iconst 2, 1) := by decide +kernel
theorem dX6_readDeed_16 : decode cX6_readDeed 16 = .ok (.invokevirtual 109, 3) := by decide +kernel
theorem dX6_readDeed_19 : decode cX6_readDeed 19 = .ok (.return_, 1) := by decide +kernel
theorem dX6_readDeed_20 : decode cX6_readDeed 20 = .ok (.aload_n 0, 1) := by decide +kernel
theorem dX6_readDeed_21 : decode cX6_readDeed 21 = .ok (.invokevirtual 65, 3) := by decide +kernel
theorem dX6_readDeed_24 : decode cX6_readDeed 24 = .ok (.aload_n 0, 1) := by decide +kernel
theorem dX6_readDeed_25 : decode cX6_readDeed 25 = .ok (.getfield 43, 3) := by decide +kernel
theorem dX6_readDeed_28 : decode cX6_readDeed 28 = .ok (.dup, 1) := by decide +kernel
theorem dX6_readDeed_29 : decode cX6_readDeed 29 = .ok (.getfield 140, 3) := by decide +kernel
theorem dX6_readDeed_32 : decode cX6_readDeed 32 = .ok (.iconst 1, 1) := by decide +kernel
theorem dX6_readDeed_33 : decode cX6_readDeed 33 = .ok (.iadd, 1) := by decide +kernel
theorem dX6_readDeed_34 : decode cX6_readDeed 34 = .ok (.putfield 140, 3) := by decide +kernel
theorem dX6_readDeed_37 : decode cX6_readDeed 37 = .ok (.iconst 0, 1) := by decide +kernel
theorem dX6_readDeed_38 : decode cX6_readDeed 38 = .ok (.istore_n 2, 1) := by decide +kernel
theorem dX6_readDeed_39 : decode cX6_readDeed 39 = .ok (.iload_n 2, 1) := by decide +kernel
theorem dX6_readDeed_40 : decode cX6_readDeed 40 = .ok (.bipush 8, 2) := by decide +kernel
theorem dX6_readDeed_42 : decode cX6_readDeed 42 = .ok (.if_icmp .gt 68, 3) := by decide +kernel
theorem dX6_readDeed_45 : decode cX6_readDeed 45 = .ok (.aload_n 0, 1) := by decide +kernel
theorem dX6_readDeed_46 : decode cX6_readDeed 46 = .ok (.getfield 9, 3) := by decide +kernel
theorem dX6_readDeed_49 : decode cX6_readDeed 49 = .ok (.ifCond .ne 61, 3) := by decide +kernel
theorem dX6_readDeed_52 : decode cX6_readDeed 52 = .ok (.iload_n 2, 1) := by decide +kernel
theorem dX6_readDeed_53 : decode cX6_readDeed 53 = .ok (.ifCond .eq 13, 3) := by decide +kernel
theorem dX6_readDeed_56 : decode cX6_readDeed 56 = .ok (.aload_n 0, 1) := by decide +kernel
theorem dX6_readDeed_57 : decode cX6_readDeed 57 = .ok (.getfield 31, 3) := by decide +kernel
theorem dX6_readDeed_60 : decode cX6_readDeed 60 = .ok (.sipush 257, 3) := by decide +kernel
theorem dX6_readDeed_63 : decode cX6_readDeed 63 = .ok (.if_icmp .ne 47, 3) := by decide +kernel
theorem dX6_readDeed_66 : decode cX6_readDeed 66 = .ok (.aload_n 0, 1) := by decide +kernel
theorem dX6_readDeed_67 : decode cX6_readDeed 67 = .ok (.iload_n 2, 1) := by decide +kernel
theorem dX6_readDeed_68 : decode cX6_readDeed 68 = .ok (.bipush 8, 2) := by decide +kernel
theorem dX6_readDeed_70 : decode cX6_readDeed 70 = .ok (.if_icmp .ge 8, 3) := by decide +kernel
theorem dX6_readDeed_73 : decode cX6_readDeed 73 = .ok (.bipush 10, 2) := by decide +kernel
theorem dX6_readDeed_75 : decode cX6_readDeed 75 = .ok (.goto 4, 3) := by decide +kernel
theorem dX6_readDeed_78 : decode cX6_readDeed 78 = .ok (.iconst 0, 1) := by decide +kernel
theorem dX6_readDeed_79 : decode cX6_readDeed 79 = .ok (.iconst 2, 1) := by decide +kernel
theorem dX6_readDeed_80 : decode cX6_readDeed 80 = .ok (.invokevirtual 143, 3) := by decide +kernel
theorem dX6_readDeed_83 : decode cX6_readDeed 83 = .ok (.istore_n 3, 1) := by decide +kernel
theorem dX6_readDeed_84 : decode cX6_readDeed 84 = .ok (.aload_n 0, 1) := by decide +kernel
theorem dX6_readDeed_85 : decode cX6_readDeed 85 = .ok (.getfield 9, 3) := by decide +kernel
theorem dX6_readDeed_88 : decode cX6_readDeed 88 = .ok (.ifCond .ne 16, 3) := by decide +kernel
theorem dX6_readDeed_91 : decode cX6_readDeed 91 = .ok (.aload_n 0, 1) := by decide +kernel
theorem dX6_readDeed_92 : decode cX6_readDeed 92 = .ok (.getfield 43, 3) := by decide +kernel
theorem dX6_readDeed_95 : decode cX6_readDeed 95 = .ok (.iload_n 1, 1) := by decide +kernel
theorem dX6_readDeed_96 : decode cX6_readDeed 96 = .ok (.iload_n 3, 1) := by decide +kernel
theorem dX6_readDeed_97 : decode cX6_readDeed 97 = .ok (.invokevirtual 146, 3) := by decide +kernel
theorem dX6_readDeed_100 : decode cX6_readDeed 100 = .ok (.aload_n 0, 1) := by decide +kernel
theorem dX6_readDeed_101 : decode cX6_readDeed 101 = .ok (.invokevirtual 65, 3) := by decide +kernel
theorem dX6_readDeed_104 : decode cX6_readDeed 104 = .ok (.iinc 2 1, 3) := by decide +kernel
theorem dX6_readDeed_107 : decode cX6_readDeed 107 = .ok (.goto (-68), 3) := by decide +kernel
theorem dX6_readDeed_110 : decode cX6_readDeed 110 = .ok (.return_, 1) := by decide +kernel
theorem dX6_readStile_0 : decode cX6_readStile 0 = .ok (.aload_n 0, 1) := by decide +kernel
theorem dX6_readStile_1 : decode cX6_readStile 1 = .ok (.invokevirtual 65, 3) := by decide +kernel
theorem dX6_readStile_4 : decode cX6_readStile 4 = .ok (.aload_n 0, 1) := by decide +kernel
theorem dX6_readStile_5 : decode cX6_readStile 5 = .ok (.aload_n 0, 1) := by decide +kernel
theorem dX6_readStile_6 : decode cX6_readStile 6 = .ok (.getfield 43, 3) := by decide +kernel
theorem dX6_readStile_9 : decode cX6_readStile 9 = .ok (.getfield 140, 3) := by decide +kernel
theorem dX6_readStile_12 : decode cX6_readStile 12 = .ok (.iconst 1, 1) := by decide +kernel
theorem dX6_readStile_13 : decode cX6_readStile 13 = .ok (.isub, 1) := by decide +kernel
theorem dX6_readStile_14 : decode cX6_readStile 14 = .ok (.iconst 3, 1) := by decide +kernel
theorem dX6_readStile_15 : decode cX6_readStile 15 = .ok (.invokevirtual 143, 3) := by decide +kernel
theorem dX6_readStile_18 : decode cX6_readStile 18 = .ok (.istore_n 1, 1) := by decide +kernel
theorem dX6_readStile_19 : decode cX6_readStile 19 = .ok (.aload_n 0, 1) := by decide +kernel
theorem dX6_readStile_20 : decode cX6_readStile 20 = .ok (.getfield 9, 3) := by decide +kernel
theorem dX6_readStile_23 : decode cX6_readStile 23 = .ok (.ifCond .eq 4, 3) := by decide +kernel
theorem dX6_readStile_26 : decode cX6_readStile 26 = .ok (.return_, 1) := by decide +kernel
theorem dX6_readStile_27 : decode cX6_readStile 27 = .ok (.aload_n 0, 1) := by decide +kernel
theorem dX6_readStile_28 : decode cX6_readStile 28 = .ok (.invokevirtual 65, 3) := by decide +kernel
theorem dX6_readStile_31 : decode cX6_readStile 31 = .ok (.aload_n 0, 1) := by decide +kernel
theorem dX6_readStile_32 : decode cX6_readStile 32 = .ok (.aload_n 0, 1) := by decide +kernel
theorem dX6_readStile_33 : decode cX6_readStile 33 = .ok (.getfield 43, 3) := by decide +kernel
theorem dX6_readStile_36 : decode cX6_readStile 36 = .ok (.getfield 150, 3) := by decide +kernel
theorem dX6_readStile_39 : decode cX6_readStile 39 = .ok (.iload_n 1, 1) := by decide +kernel
theorem dX6_readStile_40 : decode cX6_readStile 40 = .ok (.iaload, 1) := by decide +kernel
theorem dX6_readStile_41 : decode cX6_readStile 41 = .ok (.aload_n 0, 1) := by decide +kernel
theorem dX6_readStile_42 : decode cX6_readStile 42 = .ok (.getfield 43, 3) := by decide +kernel
theorem dX6_readStile_45 : decode cX6_readStile 45 = .ok (.getfield 150, 3) := by decide +kernel
theorem dX6_readStile_48 : decode cX6_readStile 48 = .ok (.iload_n 1, 1) := by decide +kernel
theorem dX6_readStile_49 : decode cX6_readStile 49 = .ok (.iconst 1, 1) := by decide +kernel
theorem dX6_readStile_50 : decode cX6_readStile 50 = .ok (.iadd, 1) := by decide +kernel
theorem dX6_readStile_51 : decode cX6_readStile 51 = .ok (.iaload, 1) := by decide +kernel
theorem dX6_readStile_52 : decode cX6_readStile 52 = .ok (.invokestatic 56, 3) := by decide +kernel
theorem dX6_readStile_55 : decode cX6_readStile 55 = .ok (.iconst 3, 1) := by decide +kernel
theorem dX6_readStile_56 : decode cX6_readStile 56 = .ok (.invokevirtual 143, 3) := by decide +kernel
theorem dX6_readStile_59 : decode cX6_readStile 59 = .ok (.istore_n 2, 1) := by decide +kernel
theorem dX6_readStile_60 : decode cX6_readStile 60 = .ok (.bipush 8, 2) := by decide +kernel
theorem dX6_readStile_62 : decode cX6_readStile 62 = .ok (.iload_n 1, 1) := by decide +kernel
theorem dX6_readStile_63 : decode cX6_readStile 63 = .ok (.imul, 1) := by decide +kernel
theorem dX6_readStile_64 : decode cX6_readStile 64 = .ok (.iload_n 2, 1) := by decide +kernel
theorem dX6_readStile_65 : decode cX6_readStile 65 = .ok (.iadd, 1) := by decide +kernel
theorem dX6_readStile_66 : decode cX6_readStile 66 = .ok (.invokestatic 153, 3) := by decide +kernel
theorem dX6_readStile_69 : decode cX6_readStile 69 = .ok (.lstore_n 3, 1) := by decide +kernel
theorem dX6_readStile_70 : decode cX6_readStile 70 = .ok (.aload_n 0, 1) := by decide +kernel
theorem dX6_readStile_71 : decode cX6_readStile 71 = .ok (.getfield 43, 3) := by decide +kernel
theorem dX6_readStile_74 : decode cX6_readStile 74 = .ok (.getfield 157, 3) := by decide +kernel
theorem dX6_readStile_77 : decode cX6_readStile 77 = .ok (.getfield 161, 3) := by decide +kernel
theorem dX6_readStile_80 : decode cX6_readStile 80 = .ok (.lload_n 3, 1) := by decide +kernel
theorem dX6_readStile_81 : decode cX6_readStile 81 = .ok (.land, 1) := by decide +kernel
theorem dX6_readStile_82 : decode cX6_readStile 82 = .ok (.lconst 0, 1) := by decide +kernel
theorem dX6_readStile_83 : decode cX6_readStile 83 = .ok (.lcmp, 1) := by decide +kernel
theorem dX6_readStile_84 : decode cX6_readStile 84 = .ok (.ifCond .eq 8, 3) := by decide +kernel
theorem dX6_readStile_87 : decode cX6_readStile 87 = .ok (.aload_n 0, 1) := by decide +kernel
theorem dX6_readStile_88 : decode cX6_readStile 88 = .ok (.iconst 4, 1) := by decide +kernel
theorem dX6_readStile_89 : decode cX6_readStile 89 = .ok (.invokevirtual 109, 3) := by decide +kernel
theorem dX6_readStile_92 : decode cX6_readStile 92 = .ok (.aload_n 0, 1) := by decide +kernel
theorem dX6_readStile_93 : decode cX6_readStile 93 = .ok (.getfield 9, 3) := by decide +kernel
theorem dX6_readStile_96 : decode cX6_readStile 96 = .ok (.ifCond .ne 23, 3) := by decide +kernel
theorem dX6_readStile_99 : decode cX6_readStile 99 = .ok (.aload_n 0, 1) := by decide +kernel
theorem dX6_readStile_100 : decode cX6_readStile 100 = .ok (.getfield 43, 3) := by decide +kernel
theorem dX6_readStile_103 : decode cX6_readStile 103 = .ok (.getfield 157, 3) := by decide +kernel
theorem dX6_readStile_106 : decode cX6_readStile 106 = .ok (.dup, 1) := by decide +kernel
theorem dX6_readStile_107 : decode cX6_readStile 107 = .ok (.getfield 161, 3) := by decide +kernel
theorem dX6_readStile_110 : decode cX6_readStile 110 = .ok (.lload_n 3, 1) := by decide +kernel
theorem dX6_readStile_111 : decode cX6_readStile 111 = .ok (.lor, 1) := by decide +kernel
theorem dX6_readStile_112 : decode cX6_readStile 112 = .ok (.putfield 161, 3) := by decide +kernel
theorem dX6_readStile_115 : decode cX6_readStile 115 = .ok (.aload_n 0, 1) := by decide +kernel
theorem dX6_readStile_116 : decode cX6_readStile 116 = .ok (.invokevirtual 65, 3) := by decide +kernel
theorem dX6_readStile_119 : decode cX6_readStile 119 = .ok (.return_, 1) := by decide +kernel
theorem dX6_readPerson_0 : decode cX6_readPerson 0 = .ok (.aload_n 0, 1) := by decide +kernel
theorem dX6_readPerson_1 : decode cX6_readPerson 1 = .ok (.getfield 43, 3) := by decide +kernel
theorem dX6_readPerson_4 : decode cX6_readPerson 4 = .ok (.getfield 167, 3) := by decide +kernel
theorem dX6_readPerson_7 : decode cX6_readPerson 7 = .ok (.istore_n 1, 1) := by decide +kernel
theorem dX6_readPerson_8 : decode cX6_readPerson 8 = .ok (.iload_n 1, 1) := by decide +kernel
theorem dX6_readPerson_9 : decode cX6_readPerson 9 = .ok (.bipush 6, 2) := by decide +kernel
theorem dX6_readPerson_11 : decode cX6_readPerson 11 = .ok (.if_icmp .lt 9, 3) := by decide +kernel
theorem dX6_readPerson_14 : decode cX6_readPerson 14 = .ok (.aload_n 0, 1) := by decide +kernel
theorem dX6_readPerson_15 : decode cX6_readPerson 15 = .ok (.iconst 2, 1) := by decide +kernel
theorem dX6_readPerson_16 : decode cX6_readPerson 16 = .ok (.invokevirtual 109, 3) := by decide +kernel
theorem dX6_readPerson_19 : decode cX6_readPerson 19 = .ok (.return_, 1) := by decide +kernel
theorem dX6_readPerson_20 : decode cX6_readPerson 20 = .ok (.aload_n 0, 1) := by decide +kernel
theorem dX6_readPerson_21 : decode cX6_readPerson 21 = .ok (.invokevirtual 65, 3) := by decide +kernel
theorem dX6_readPerson_24 : decode cX6_readPerson 24 = .ok (.aload_n 0, 1) := by decide +kernel
theorem dX6_readPerson_25 : decode cX6_readPerson 25 = .ok (.getfield 43, 3) := by decide +kernel
theorem dX6_readPerson_28 : decode cX6_readPerson 28 = .ok (.dup, 1) := by decide +kernel
theorem dX6_readPerson_29 : decode cX6_readPerson 29 = .ok (.getfield 167, 3) := by decide +kernel
theorem dX6_readPerson_32 : decode cX6_readPerson 32 = .ok (.iconst 1, 1) := by decide +kernel
theorem dX6_readPerson_33 : decode cX6_readPerson 33 = .ok (.iadd, 1) := by decide +kernel
theorem dX6_readPerson_34 : decode cX6_readPerson 34 = .ok (.putfield 167, 3) := by decide +kernel
theorem dX6_readPerson_37 : decode cX6_readPerson 37 = .ok (.aload_n 0, 1) := by decide +kernel
theorem dX6_readPerson_38 : decode cX6_readPerson 38 = .ok (.getfield 43, 3) := by decide +kernel
theorem dX6_readPerson_41 : decode cX6_readPerson 41 = .ok (.getfield 157, 3) := by decide +kernel
theorem dX6_readPerson_44 : decode cX6_readPerson 44 = .ok (.getfield 170, 3) := by decide +kernel
theorem dX6_readPerson_47 : decode cX6_readPerson 47 = .ok (.iload_n 1, 1) := by decide +kernel
theorem dX6_readPerson_48 : decode cX6_readPerson 48 = .ok (.aload_n 0, 1) := by decide +kernel
theorem dX6_readPerson_49 : decode cX6_readPerson 49 = .ok (.invokevirtual 173, 3) := by decide +kernel
theorem dX6_readPerson_52 : decode cX6_readPerson 52 = .ok (.iastore, 1) := by decide +kernel
theorem dX6_readPerson_53 : decode cX6_readPerson 53 = .ok (.aload_n 0, 1) := by decide +kernel
theorem dX6_readPerson_54 : decode cX6_readPerson 54 = .ok (.getfield 43, 3) := by decide +kernel
theorem dX6_readPerson_57 : decode cX6_readPerson 57 = .ok (.getfield 176, 3) := by decide +kernel
theorem dX6_readPerson_60 : decode cX6_readPerson 60 = .ok (.iload_n 1, 1) := by decide +kernel
theorem dX6_readPerson_61 : decode cX6_readPerson 61 = .ok (.aload_n 0, 1) := by decide +kernel
theorem dX6_readPerson_62 : decode cX6_readPerson 62 = .ok (.bipush 10, 2) := by decide +kernel
theorem dX6_readPerson_64 : decode cX6_readPerson 64 = .ok (.iconst 2, 1) := by decide +kernel
theorem dX6_readPerson_65 : decode cX6_readPerson 65 = .ok (.invokevirtual 143, 3) := by decide +kernel
theorem dX6_readPerson_68 : decode cX6_readPerson 68 = .ok (.iastore, 1) := by decide +kernel
theorem dX6_readPerson_69 : decode cX6_readPerson 69 = .ok (.aload_n 0, 1) := by decide +kernel
theorem dX6_readPerson_70 : decode cX6_readPerson 70 = .ok (.getfield 9, 3) := by decide +kernel
theorem dX6_readPerson_73 : decode cX6_readPerson 73 = .ok (.ifCond .ne 7, 3) := by decide +kernel
theorem dX6_readPerson_76 : decode cX6_readPerson 76 = .ok (.aload_n 0, 1) := by decide +kernel
theorem dX6_readPerson_77 : decode cX6_readPerson 77 = .ok (.invokevirtual 65, 3) := by decide +kernel
theorem dX6_readPerson_80 : decode cX6_readPerson 80 = .ok (.aload_n 0, 1) := by decide +kernel
theorem dX6_readPerson_81 : decode cX6_readPerson 81 = .ok (.getfield 9, 3) := by decide +kernel
theorem dX6_readPerson_84 : decode cX6_readPerson 84 = .ok (.ifCond .ne 32, 3) := by decide +kernel
theorem dX6_readPerson_87 : decode cX6_readPerson 87 = .ok (.aload_n 0, 1) := by decide +kernel
theorem dX6_readPerson_88 : decode cX6_readPerson 88 = .ok (.ldc 179, 2) := by decide +kernel
theorem dX6_readPerson_90 : decode cX6_readPerson 90 = .ok (.invokevirtual 181, 3) := by decide +kernel
theorem dX6_readPerson_93 : decode cX6_readPerson 93 = .ok (.ifCond .eq 23, 3) := by decide +kernel
theorem dX6_readPerson_96 : decode cX6_readPerson 96 = .ok (.aload_n 0, 1) := by decide +kernel
theorem dX6_readPerson_97 : decode cX6_readPerson 97 = .ok (.invokevirtual 65, 3) := by decide +kernel
theorem dX6_readPerson_100 : decode cX6_readPerson 100 = .ok (.aload_n 0, 1) := by decide +kernel
theorem dX6_readPerson_101 : decode cX6_readPerson 101 = .ok (.getfield 43, 3) := by decide +kernel
theorem dX6_readPerson_104 : decode cX6_readPerson 104 = .ok (.getfield 157, 3) := by decide +kernel
theorem dX6_readPerson_107 : decode cX6_readPerson 107 = .ok (.getfield 185, 3) := by decide +kernel
theorem dX6_readPerson_110 : decode cX6_readPerson 110 = .ok (.iload_n 1, 1) := by decide +kernel
theorem dX6_readPerson_111 : decode cX6_readPerson 111 = .ok (.aload_n 0, 1) := by decide +kernel
theorem dX6_readPerson_112 : decode cX6_readPerson 112 = .ok (.invokevirtual 173, 3) := by decide +kernel
theorem dX6_readPerson_115 : decode cX6_readPerson 115 = .ok (.iastore, 1) := by decide +kernel
theorem dX6_readPerson_116 : decode cX6_readPerson 116 = .ok (.return_, 1) := by decide +kernel
theorem dX6_readPlace_0 : decode cX6_readPlace 0 = .ok (.aload_n 0, 1) := by decide +kernel
theorem dX6_readPlace_1 : decode cX6_readPlace 1 = .ok (.aload_n 0, 1) := by decide +kernel
theorem dX6_readPlace_2 : decode cX6_readPlace 2 = .ok (.getfield 43, 3) := by decide +kernel
theorem dX6_readPlace_5 : decode cX6_readPlace 5 = .ok (.getfield 140, 3) := by decide +kernel
theorem dX6_readPlace_8 : decode cX6_readPlace 8 = .ok (.iconst 3, 1) := by decide +kernel
theorem dX6_readPlace_9 : decode cX6_readPlace 9 = .ok (.invokevirtual 143, 3) := by decide +kernel
theorem dX6_readPlace_12 : decode cX6_readPlace 12 = .ok (.istore_n 1, 1) := by decide +kernel
theorem dX6_readPlace_13 : decode cX6_readPlace 13 = .ok (.aload_n 0, 1) := by decide +kernel
theorem dX6_readPlace_14 : decode cX6_readPlace 14 = .ok (.getfield 9, 3) := by decide +kernel
theorem dX6_readPlace_17 : decode cX6_readPlace 17 = .ok (.ifCond .eq 5, 3) := by decide +kernel
theorem dX6_readPlace_20 : decode cX6_readPlace 20 = .ok (.iconst (-1), 1) := by decide +kernel
theorem dX6_readPlace_21 : decode cX6_readPlace 21 = .ok (.ireturn, 1) := by decide +kernel
theorem dX6_readPlace_22 : decode cX6_readPlace 22 = .ok (.aload_n 0, 1) := by decide +kernel
theorem dX6_readPlace_23 : decode cX6_readPlace 23 = .ok (.invokevirtual 65, 3) := by decide +kernel
theorem dX6_readPlace_26 : decode cX6_readPlace 26 = .ok (.aload_n 0, 1) := by decide +kernel
theorem dX6_readPlace_27 : decode cX6_readPlace 27 = .ok (.aload_n 0, 1) := by decide +kernel
theorem dX6_readPlace_28 : decode cX6_readPlace 28 = .ok (.getfield 43, 3) := by decide +kernel
theorem dX6_readPlace_31 : decode cX6_readPlace 31 = .ok (.getfield 150, 3) := by decide +kernel
theorem dX6_readPlace_34 : decode cX6_readPlace 34 = .ok (.iload_n 1, 1) := by decide +kernel
theorem dX6_readPlace_35 : decode cX6_readPlace 35 = .ok (.iaload, 1) := by decide +kernel
theorem dX6_readPlace_36 : decode cX6_readPlace 36 = .ok (.iconst 3, 1) := by decide +kernel
theorem dX6_readPlace_37 : decode cX6_readPlace 37 = .ok (.invokevirtual 143, 3) := by decide +kernel
theorem dX6_readPlace_40 : decode cX6_readPlace 40 = .ok (.istore_n 2, 1) := by decide +kernel
theorem dX6_readPlace_41 : decode cX6_readPlace 41 = .ok (.aload_n 0, 1) := by decide +kernel
theorem dX6_readPlace_42 : decode cX6_readPlace 42 = .ok (.getfield 9, 3) := by decide +kernel
theorem dX6_readPlace_45 : decode cX6_readPlace 45 = .ok (.ifCond .eq 5, 3) := by decide +kernel
theorem dX6_readPlace_48 : decode cX6_readPlace 48 = .ok (.iconst (-1), 1) := by decide +kernel
theorem dX6_readPlace_49 : decode cX6_readPlace 49 = .ok (.ireturn, 1) := by decide +kernel
theorem dX6_readPlace_50 : decode cX6_readPlace 50 = .ok (.aload_n 0, 1) := by decide +kernel
theorem dX6_readPlace_51 : decode cX6_readPlace 51 = .ok (.invokevirtual 65, 3) := by decide +kernel
theorem dX6_readPlace_54 : decode cX6_readPlace 54 = .ok (.bipush 8, 2) := by decide +kernel
theorem dX6_readPlace_56 : decode cX6_readPlace 56 = .ok (.iload_n 1, 1) := by decide +kernel
theorem dX6_readPlace_57 : decode cX6_readPlace 57 = .ok (.imul, 1) := by decide +kernel
theorem dX6_readPlace_58 : decode cX6_readPlace 58 = .ok (.iload_n 2, 1) := by decide +kernel
theorem dX6_readPlace_59 : decode cX6_readPlace 59 = .ok (.iadd, 1) := by decide +kernel
theorem dX6_readPlace_60 : decode cX6_readPlace 60 = .ok (.ireturn, 1) := by decide +kernel
theorem dX6_readRule_0 : decode cX6_readRule 0 = .ok (.aload_n 1, 1) := by decide +kernel
theorem dX6_readRule_1 : decode cX6_readRule 1 = .ok (.invokevirtual 188, 3) := by decide +kernel
theorem dX6_readRule_4 : decode cX6_readRule 4 = .ok (.ifCond .eq 9, 3) := by decide +kernel
theorem dX6_readRule_7 : decode cX6_readRule 7 = .ok (.aload_n 0, 1) := by decide +kernel
theorem dX6_readRule_8 : decode cX6_readRule 8 = .ok (.iconst 5, 1) := by decide +kernel
theorem dX6_readRule_9 : decode cX6_readRule 9 = .ok (.invokevirtual 109, 3) := by decide +kernel
theorem dX6_readRule_12 : decode cX6_readRule 12 = .ok (.return_, 1) := by decide +kernel
theorem dX6_readRule_13 : decode cX6_readRule 13 = .ok (.aload_n 0, 1) := by decide +kernel
theorem dX6_readRule_14 : decode cX6_readRule 14 = .ok (.invokevirtual 65, 3) := by decide +kernel
theorem dX6_readRule_17 : decode cX6_readRule 17 = .ok (.aload_n 0, 1) := by decide +kernel
theorem dX6_readRule_18 : decode cX6_readRule 18 = .ok (.aload_n 1, 1) := by decide +kernel
theorem dX6_readRule_19 : decode cX6_readRule 19 = .ok (.putfield 53, 3) := by decide +kernel
theorem dX6_readRule_22 : decode cX6_readRule 22 = .ok (.aload_n 0, 1) := by decide +kernel
theorem dX6_readRule_23 : decode cX6_readRule 23 = .ok (.aload_n 2, 1) := by decide +kernel
theorem dX6_readRule_24 : decode cX6_readRule 24 = .ok (.putfield 39, 3) := by decide +kernel
theorem dX6_readRule_27 : decode cX6_readRule 27 = .ok (.aload_n 0, 1) := by decide +kernel
theorem dX6_readRule_28 : decode cX6_readRule 28 = .ok (.iconst 0, 1) := by decide +kernel
theorem dX6_readRule_29 : decode cX6_readRule 29 = .ok (.invokevirtual 194, 3) := by decide +kernel
theorem dX6_readRule_32 : decode cX6_readRule 32 = .ok (.return_, 1) := by decide +kernel
theorem dX6_readExpr_0 : decode cX6_readExpr 0 = .ok (.iload_n 1, 1) := by decide +kernel
theorem dX6_readExpr_1 : decode cX6_readExpr 1 = .ok (.bipush 6, 2) := by decide +kernel
theorem dX6_readExpr_3 : decode cX6_readExpr 3 = .ok (.if_icmp .lt 52, 3) := by decide +kernel
theorem dX6_readExpr_6 : decode cX6_readExpr 6 = .ok (.aload_n 0, 1) := by decide +kernel
theorem dX6_readExpr_7 : decode cX6_readExpr 7 = .ok (.getfield 31, 3) := by decide +kernel
theorem dX6_readExpr_10 : decode cX6_readExpr 10 = .ok (.sipush 257, 3) := by decide +kernel
theorem dX6_readExpr_13 : decode cX6_readExpr 13 = .ok (.if_icmp .eq 22, 3) := by decide +kernel
theorem dX6_readExpr_16 : decode cX6_readExpr 16 = .ok (.aload_n 0, 1) := by decide +kernel
theorem dX6_readExpr_17 : decode cX6_readExpr 17 = .ok (.getfield 31, 3) := by decide +kernel
theorem dX6_readExpr_20 : decode cX6_readExpr 20 = .ok (.sipush 256, 3) := by decide +kernel
theorem dX6_readExpr_23 : decode cX6_readExpr 23 = .ok (.if_icmp .eq 12, 3) := by decide +kernel
theorem dX6_readExpr_26 : decode cX6_readExpr 26 = .ok (.aload_n 0, 1) := by decide +kernel
theorem dX6_readExpr_27 : decode cX6_readExpr 27 = .ok (.getfield 31, 3) := by decide +kernel
theorem dX6_readExpr_30 : decode cX6_readExpr 30 = .ok (.bipush 40, 2) := by decide +kernel
theorem dX6_readExpr_32 : decode cX6_readExpr 32 = .ok (.if_icmp .ne 7, 3) := by decide +kernel
theorem dX6_readExpr_35 : decode cX6_readExpr 35 = .ok (.iconst 1, 1) := by decide +kernel
theorem dX6_readExpr_36 : decode cX6_readExpr 36 = .ok (.goto 4, 3) := by decide +kernel
theorem dX6_readExpr_39 : decode cX6_readExpr 39 = .ok (.iconst 0, 1) := by decide +kernel
theorem dX6_readExpr_40 : decode cX6_readExpr 40 = .ok (.istore_n 2, 1) := by decide +kernel
theorem dX6_readExpr_41 : decode cX6_readExpr 41 = .ok (.aload_n 0, 1) := by decide +kernel
theorem dX6_readExpr_42 : decode cX6_readExpr 42 = .ok (.iload_n 2, 1) := by decide +kernel
theorem dX6_readExpr_43 : decode cX6_readExpr 43 = .ok (.ifCond .eq 7, 3) := by decide +kernel
theorem dX6_readExpr_46 : decode cX6_readExpr 46 = .ok (.iconst 2, 1) := by decide +kernel
theorem dX6_readExpr_47 : decode cX6_readExpr 47 = .ok (.goto 4, 3) := by decide +kernel
theorem dX6_readExpr_50 : decode cX6_readExpr 50 = .ok (.iconst 1, 1) := by decide +kernel
theorem dX6_readExpr_51 : decode cX6_readExpr 51 = .ok (.invokevirtual 109, 3) := by decide +kernel
theorem dX6_readExpr_54 : decode cX6_readExpr 54 = .ok (.return_, 1) := by decide +kernel
theorem dX6_readExpr_55 : decode cX6_readExpr 55 = .ok (.aload_n 0, 1) := by decide +kernel
theorem dX6_readExpr_56 : decode cX6_readExpr 56 = .ok (.iload_n 1, 1) := by decide +kernel
theorem dX6_readExpr_57 : decode cX6_readExpr 57 = .ok (.invokevirtual 197, 3) := by decide +kernel
theorem dX6_readExpr_60 : decode cX6_readExpr 60 = .ok (.iconst 0, 1) := by decide +kernel
theorem dX6_readExpr_61 : decode cX6_readExpr 61 = .ok (.istore_n 2, 1) := by decide +kernel
theorem dX6_readExpr_62 : decode cX6_readExpr 62 = .ok (.iload_n 2, 1) := by decide +kernel
theorem dX6_readExpr_63 : decode cX6_readExpr 63 = .ok (.sipush 700, 3) := by decide +kernel
theorem dX6_readExpr_66 : decode cX6_readExpr 66 = .ok (.if_icmp .ge 43, 3) := by decide +kernel
theorem dX6_readExpr_69 : decode cX6_readExpr 69 = .ok (.aload_n 0, 1) := by decide +kernel
theorem dX6_readExpr_70 : decode cX6_readExpr 70 = .ok (.getfield 9, 3) := by decide +kernel
theorem dX6_readExpr_73 : decode cX6_readExpr 73 = .ok (.ifCond .ne 36, 3) := by decide +kernel
theorem dX6_readExpr_76 : decode cX6_readExpr 76 = .ok (.aload_n 0, 1) := by decide +kernel
theorem dX6_readExpr_77 : decode cX6_readExpr 77 = .ok (.ldc 200, 2) := by decide +kernel
theorem dX6_readExpr_79 : decode cX6_readExpr 79 = .ok (.invokevirtual 181, 3) := by decide +kernel
theorem dX6_readExpr_82 : decode cX6_readExpr 82 = .ok (.ifCond .eq 27, 3) := by decide +kernel
theorem dX6_readExpr_85 : decode cX6_readExpr 85 = .ok (.aload_n 0, 1) := by decide +kernel
theorem dX6_readExpr_86 : decode cX6_readExpr 86 = .ok (.invokevirtual 65, 3) := by decide +kernel
theorem dX6_readExpr_89 : decode cX6_readExpr 89 = .ok (.aload_n 0, 1) := by decide +kernel
theorem dX6_readExpr_90 : decode cX6_readExpr 90 = .ok (.iload_n 1, 1) := by decide +kernel
theorem dX6_readExpr_91 : decode cX6_readExpr 91 = .ok (.invokevirtual 197, 3) := by decide +kernel
theorem dX6_readExpr_94 : decode cX6_readExpr 94 = .ok (.aload_n 0, 1) := by decide +kernel
theorem dX6_readExpr_95 : decode cX6_readExpr 95 = .ok (.getfield 53, 3) := by decide +kernel
theorem dX6_readExpr_98 : decode cX6_readExpr 98 = .ok (.bipush (-11), 2) := by decide +kernel
theorem dX6_readExpr_100 : decode cX6_readExpr 100 = .ok (.invokevirtual 202, 3) := by decide +kernel
theorem dX6_readExpr_103 : decode cX6_readExpr 103 = .ok (.iinc 2 1, 3) := by decide +kernel
theorem dX6_readExpr_106 : decode cX6_readExpr 106 = .ok (.goto (-44), 3) := by decide +kernel
theorem dX6_readExpr_109 : decode cX6_readExpr 109 = .ok (.return_, 1) := by decide +kernel
theorem dX6_readAnd_0 : decode cX6_readAnd 0 = .ok (.aload_n 0, 1) := by decide +kernel
theorem dX6_readAnd_1 : decode cX6_readAnd 1 = .ok (.iload_n 1, 1) := by decide +kernel
theorem dX6_readAnd_2 : decode cX6_readAnd 2 = .ok (.invokevirtual 205, 3) := by decide +kernel
theorem dX6_readAnd_5 : decode cX6_readAnd 5 = .ok (.iconst 0, 1) := by decide +kernel
theorem dX6_readAnd_6 : decode cX6_readAnd 6 = .ok (.istore_n 2, 1) := by decide +kernel
