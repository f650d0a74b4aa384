theorem dX0_init_0 : decode cX0_init 0 = .ok (.aload_n 0, 1) := by decide +kernel
theorem dX0_init_1 : decode cX0_init 1 = .ok (.invokespecial 1, 3) := by decide +kernel
theorem dX0_init_4 : decode cX0_init 4 = .ok (.return_, 1) := by decide +kernel
theorem dX0_start_0 : decode cX0_start 0 = .ok (.aload_n 0, 1) := by decide +kernel
theorem dX0_start_1 : decode cX0_start 1 = .ok (.iload_n 1, 1) := by decide +kernel
theorem dX0_start_2 : decode cX0_start 2 = .ok (.putfield 7, 3) := by decide +kernel
theorem dX0_start_5 : decode cX0_start 5 = .ok (.aload_n 0, 1) := by decide +kernel
theorem dX0_start_6 : decode cX0_start 6 = .ok (.lconst 0, 1) := by decide +kernel
theorem dX0_start_7 : decode cX0_start 7 = .ok (.putfield 13, 3) := by decide +kernel
theorem dX0_start_10 : decode cX0_start 10 = .ok (.aload_n 0, 1) := by decide +kernel
theorem dX0_start_11 : decode cX0_start 11 = .ok (.lconst 0, 1) := by decide +kernel
theorem dX0_start_12 : decode cX0_start 12 = .ok (.putfield 17, 3) := by decide +kernel
theorem dX0_start_15 : decode cX0_start 15 = .ok (.aload_n 0, 1) := by decide +kernel
theorem dX0_start_16 : decode cX0_start 16 = .ok (.lconst 0, 1) := by decide +kernel
theorem dX0_start_17 : decode cX0_start 17 = .ok (.putfield 20, 3) := by decide +kernel
theorem dX0_start_20 : decode cX0_start 20 = .ok (.aload_n 0, 1) := by decide +kernel
theorem dX0_start_21 : decode cX0_start 21 = .ok (.lconst 0, 1) := by decide +kernel
theorem dX0_start_22 : decode cX0_start 22 = .ok (.putfield 23, 3) := by decide +kernel
theorem dX0_start_25 : decode cX0_start 25 = .ok (.aload_n 0, 1) := by decide +kernel
theorem dX0_start_26 : decode cX0_start 26 = .ok (.iconst 0, 1) := by decide +kernel
theorem dX0_start_27 : decode cX0_start 27 = .ok (.putfield 26, 3) := by decide +kernel
theorem dX0_start_30 : decode cX0_start 30 = .ok (.return_, 1) := by decide +kernel
theorem dX0_copyFrom_0 : decode cX0_copyFrom 0 = .ok (.aload_n 0, 1) := by decide +kernel
theorem dX0_copyFrom_1 : decode cX0_copyFrom 1 = .ok (.aload_n 1, 1) := by decide +kernel
theorem dX0_copyFrom_2 : decode cX0_copyFrom 2 = .ok (.getfield 7, 3) := by decide +kernel
theorem dX0_copyFrom_5 : decode cX0_copyFrom 5 = .ok (.putfield 7, 3) := by decide +kernel
theorem dX0_copyFrom_8 : decode cX0_copyFrom 8 = .ok (.aload_n 0, 1) := by decide +kernel
theorem dX0_copyFrom_9 : decode cX0_copyFrom 9 = .ok (.aload_n 1, 1) := by decide +kernel
theorem dX0_copyFrom_10 : decode cX0_copyFrom 10 = .ok (.getfield 13, 3) := by decide +kernel
theorem dX0_copyFrom_13 : decode cX0_copyFrom 13 = .ok (.putfield 13, 3) := by decide +kernel
theorem dX0_copyFrom_16 : decode cX0_copyFrom 16 = .ok (.aload_n 0, 1) := by decide +kernel
theorem dX0_copyFrom_17 : decode cX0_copyFrom 17 = .ok (.aload_n 1, 1) := by decide +kernel
theorem dX0_copyFrom_18 : decode cX0_copyFrom 18 = .ok (.getfield 17, 3) := by decide +kernel
theorem dX0_copyFrom_21 : decode cX0_copyFrom 21 = .ok (.putfield 17, 3) := by decide +kernel
theorem dX0_copyFrom_24 : decode cX0_copyFrom 24 = .ok (.aload_n 0, 1) := by decide +kernel
theorem dX0_copyFrom_25 : decode cX0_copyFrom 25 = .ok (.aload_n 1, 1) := by decide +kernel
theorem dX0_copyFrom_26 : decode cX0_copyFrom 26 = .ok (.getfield 20, 3) := by decide +kernel
theorem dX0_copyFrom_29 : decode cX0_copyFrom 29 = .ok (.putfield 20, 3) := by decide +kernel
theorem dX0_copyFrom_32 : decode cX0_copyFrom 32 = .ok (.aload_n 0, 1) := by decide +kernel
theorem dX0_copyFrom_33 : decode cX0_copyFrom 33 = .ok (.aload_n 1, 1) := by decide +kernel
theorem dX0_copyFrom_34 : decode cX0_copyFrom 34 = .ok (.getfield 23, 3) := by decide +kernel
theorem dX0_copyFrom_37 : decode cX0_copyFrom 37 = .ok (.putfield 23, 3) := by decide +kernel
theorem dX0_copyFrom_40 : decode cX0_copyFrom 40 = .ok (.aload_n 0, 1) := by decide +kernel
theorem dX0_copyFrom_41 : decode cX0_copyFrom 41 = .ok (.aload_n 1, 1) := by decide +kernel
theorem dX0_copyFrom_42 : decode cX0_copyFrom 42 = .ok (.getfield 26, 3) := by decide +kernel
theorem dX0_copyFrom_45 : decode cX0_copyFrom 45 = .ok (.putfield 26, 3) := by decide +kernel
theorem dX0_copyFrom_48 : decode cX0_copyFrom 48 = .ok (.return_, 1) := by decide +kernel
theorem dX1_init_0 : decode cX1_init 0 = .ok (.aload_n 0, 1) := by decide +kernel
theorem dX1_init_1 : decode cX1_init 1 = .ok (.invokespecial 3, 3) := by decide +kernel
theorem dX1_init_4 : decode cX1_init 4 = .ok (.aload_n 0, 1) := by decide +kernel
theorem dX1_init_5 : decode cX1_init 5 = .ok (.bipush 8, 2) := by decide +kernel
theorem dX1_init_7 : decode cX1_init 7 = .ok (.anewarray 9, 3) := by decide +kernel
theorem dX1_init_10 : decode cX1_init 10 = .ok (.putfield 11, 3) := by decide +kernel
theorem dX1_init_13 : decode cX1_init 13 = .ok (.iconst 0, 1) := by decide +kernel
theorem dX1_init_14 : decode cX1_init 14 = .ok (.istore_n 1, 1) := by decide +kernel
theorem dX1_init_15 : decode cX1_init 15 = .ok (.iload_n 1, 1) := by decide +kernel
theorem dX1_init_16 : decode cX1_init 16 = .ok (.bipush 8, 2) := by decide +kernel
theorem dX1_init_18 : decode cX1_init 18 = .ok (.if_icmp .ge 22, 3) := by decide +kernel
theorem dX1_init_21 : decode cX1_init 21 = .ok (.aload_n 0, 1) := by decide +kernel
theorem dX1_init_22 : decode cX1_init 22 = .ok (.getfield 11, 3) := by decide +kernel
theorem dX1_init_25 : decode cX1_init 25 = .ok (.iload_n 1, 1) := by decide +kernel
theorem dX1_init_26 : decode cX1_init 26 = .ok (.new 9, 3) := by decide +kernel
theorem dX1_init_29 : decode cX1_init 29 = .ok (.dup, 1) := by decide +kernel
theorem dX1_init_30 : decode cX1_init 30 = .ok (.invokespecial 17, 3) := by decide +kernel
theorem dX1_init_33 : decode cX1_init 33 = .ok (.aastore, 1) := by decide +kernel
theorem dX1_init_34 : decode cX1_init 34 = .ok (.iinc 1 1, 3) := by decide +kernel
theorem dX1_init_37 : decode cX1_init 37 = .ok (.goto (-22), 3) := by decide +kernel
theorem dX1_init_40 : decode cX1_init 40 = .ok (.return_, 1) := by decide +kernel
theorem dX1_keep_0 : decode cX1_keep 0 = .ok (.aload_n 0, 1) := by decide +kernel
theorem dX1_keep_1 : decode cX1_keep 1 = .ok (.getfield 11, 3) := by decide +kernel
theorem dX1_keep_4 : decode cX1_keep 4 = .ok (.aload_n 0, 1) := by decide +kernel
theorem dX1_keep_5 : decode cX1_keep 5 = .ok (.getfield 18, 3) := by decide +kernel
theorem dX1_keep_8 : decode cX1_keep 8 = .ok (.aaload, 1) := by decide +kernel
theorem dX1_keep_9 : decode cX1_keep 9 = .ok (.aload_n 1, 1) := by decide +kernel
theorem dX1_keep_10 : decode cX1_keep 10 = .ok (.invokevirtual 22, 3) := by decide +kernel
theorem dX1_keep_13 : decode cX1_keep 13 = .ok (.aload_n 0, 1) := by decide +kernel
theorem dX1_keep_14 : decode cX1_keep 14 = .ok (.aload_n 0, 1) := by decide +kernel
theorem dX1_keep_15 : decode cX1_keep 15 = .ok (.getfield 18, 3) := by decide +kernel
theorem dX1_keep_18 : decode cX1_keep 18 = .ok (.iconst 1, 1) := by decide +kernel
theorem dX1_keep_19 : decode cX1_keep 19 = .ok (.iadd, 1) := by decide +kernel
theorem dX1_keep_20 : decode cX1_keep 20 = .ok (.bipush 8, 2) := by decide +kernel
theorem dX1_keep_22 : decode cX1_keep 22 = .ok (.irem, 1) := by decide +kernel
theorem dX1_keep_23 : decode cX1_keep 23 = .ok (.putfield 18, 3) := by decide +kernel
theorem dX1_keep_26 : decode cX1_keep 26 = .ok (.aload_n 0, 1) := by decide +kernel
theorem dX1_keep_27 : decode cX1_keep 27 = .ok (.aload_n 0, 1) := by decide +kernel
theorem dX1_keep_28 : decode cX1_keep 28 = .ok (.getfield 26, 3) := by decide +kernel
theorem dX1_keep_31 : decode cX1_keep 31 = .ok (.iconst 1, 1) := by decide +kernel
theorem dX1_keep_32 : decode cX1_keep 32 = .ok (.iadd, 1) := by decide +kernel
theorem dX1_keep_33 : decode cX1_keep 33 = .ok (.bipush 8, 2) := by decide +kernel
theorem dX1_keep_35 : decode cX1_keep 35 = .ok (.invokestatic 29, 3) := by decide +kernel
theorem dX1_keep_38 : decode cX1_keep 38 = .ok (.putfield 26, 3) := by decide +kernel
theorem dX1_keep_41 : decode cX1_keep 41 = .ok (.return_, 1) := by decide +kernel
theorem dX1_takeBack_0 : decode cX1_takeBack 0 = .ok (.aload_n 0, 1) := by decide +kernel
theorem dX1_takeBack_1 : decode cX1_takeBack 1 = .ok (.getfield 26, 3) := by decide +kernel
theorem dX1_takeBack_4 : decode cX1_takeBack 4 = .ok (.ifCond .ne 5, 3) := by decide +kernel
theorem dX1_takeBack_7 : decode cX1_takeBack 7 = .ok (.iconst (-1), 1) := by decide +kernel
theorem dX1_takeBack_8 : decode cX1_takeBack 8 = .ok (.ireturn, 1) := by decide +kernel
theorem dX1_takeBack_9 : decode cX1_takeBack 9 = .ok (.aload_n 0, 1) := by decide +kernel
theorem dX1_takeBack_10 : decode cX1_takeBack 10 = .ok (.aload_n 0, 1) := by decide +kernel
theorem dX1_takeBack_11 : decode cX1_takeBack 11 = .ok (.getfield 18, 3) := by decide +kernel
theorem dX1_takeBack_14 : decode cX1_takeBack 14 = .ok (.bipush 8, 2) := by decide +kernel
theorem dX1_takeBack_16 : decode cX1_takeBack 16 = .ok (.iadd, 1) := by decide +kernel
theorem dX1_takeBack_17 : decode cX1_takeBack 17 = .ok (.iconst 1, 1) := by decide +kernel
theorem dX1_takeBack_18 : decode cX1_takeBack 18 = .ok (.isub, 1) := by decide +kernel
theorem dX1_takeBack_19 : decode cX1_takeBack 19 = .ok (.bipush 8, 2) := by decide +kernel
theorem dX1_takeBack_21 : decode cX1_takeBack 21 = .ok (.irem, 1) := by decide +kernel
theorem dX1_takeBack_22 : decode cX1_takeBack 22 = .ok (.putfield 18, 3) := by decide +kernel
theorem dX1_takeBack_25 : decode cX1_takeBack 25 = .ok (.aload_n 0, 1) := by decide +kernel
theorem dX1_takeBack_26 : decode cX1_takeBack 26 = .ok (.dup, 1) := by decide +kernel
theorem dX1_takeBack_27 : decode cX1_takeBack 27 = .ok (.getfield 26, 3) := by decide +kernel
theorem dX1_takeBack_30 : decode cX1_takeBack 30 = .ok (.iconst 1, 1) := by decide +kernel
theorem dX1_takeBack_31 : decode cX1_takeBack 31 = .ok (.isub, 1) := by decide +kernel
theorem dX1_takeBack_32 : decode cX1_takeBack 32 = .ok (.putfield 26, 3) := by decide +kernel
theorem dX1_takeBack_35 : decode cX1_takeBack 35 = .ok (.aload_n 1, 1) := by decide +kernel
theorem dX1_takeBack_36 : decode cX1_takeBack 36 = .ok (.aload_n 0, 1) := by decide +kernel
theorem dX1_takeBack_37 : decode cX1_takeBack 37 = .ok (.getfield 11, 3) := by decide +kernel
theorem dX1_takeBack_40 : decode cX1_takeBack 40 = .ok (.aload_n 0, 1) := by decide +kernel
theorem dX1_takeBack_41 : decode cX1_takeBack 41 = .ok (.getfield 18, 3) := by decide +kernel
theorem dX1_takeBack_44 : decode cX1_takeBack 44 = .ok (.aaload, 1) := by decide +kernel
theorem dX1_takeBack_45 : decode cX1_takeBack 45 = .ok (.invokevirtual 22, 3) := by decide +kernel
theorem dX1_takeBack_48 : decode cX1_takeBack 48 = .ok (.aload_n 0, 1) := by decide +kernel
theorem dX1_takeBack_49 : decode cX1_takeBack 49 = .ok (.getfield 26, 3) := by decide +kernel
theorem dX1_takeBack_52 : decode cX1_takeBack 52 = .ok (.ireturn, 1) := by decide +kernel
theorem dX2_init_0 : decode cX2_init 0 = .ok (.aload_n 0, 1) := by decide +kernel
theorem dX2_init_1 : decode cX2_init 1 = .ok (.invokespecial 3, 3) := by decide +kernel
theorem dX2_init_4 : decode cX2_init 4 = .ok (.aload_n 0, 1) := by decide +kernel
theorem dX2_init_5 : decode cX2_init 5 = .ok (.bipush 8, 2) := by decide +kernel
theorem dX2_init_7 : decode cX2_init 7 = .ok (.anewarray 9, 3) := by decide +kernel
theorem dX2_init_10 : decode cX2_init 10 = .ok (.putfield 11, 3) := by decide +kernel
theorem dX2_init_13 : decode cX2_init 13 = .ok (.aload_n 0, 1) := by decide +kernel
theorem dX2_init_14 : decode cX2_init 14 = .ok (.bipush 24, 2) := by decide +kernel
theorem dX2_init_16 : decode cX2_init 16 = .ok (.anewarray 17, 3) := by decide +kernel
theorem dX2_init_19 : decode cX2_init 19 = .ok (.putfield 19, 3) := by decide +kernel
theorem dX2_init_22 : decode cX2_init 22 = .ok (.aload_n 0, 1) := by decide +kernel
theorem dX2_init_23 : decode cX2_init 23 = .ok (.getstatic 23, 3) := by decide +kernel
theorem dX2_init_26 : decode cX2_init 26 = .ok (.putfield 27, 3) := by decide +kernel
theorem dX2_init_29 : decode cX2_init 29 = .ok (.iconst 0, 1) := by decide +kernel
theorem dX2_init_30 : decode cX2_init 30 = .ok (.istore_n 1, 1) := by decide +kernel
theorem dX2_init_31 : decode cX2_init 31 = .ok (.iload_n 1, 1) := by decide +kernel
theorem dX2_init_32 : decode cX2_init 32 = .ok (.bipush 8, 2) := by decide +kernel
theorem dX2_init_34 : decode cX2_init 34 = .ok (.if_icmp .ge 22, 3) := by decide +kernel
theorem dX2_init_37 : decode cX2_init 37 = .ok (.aload_n 0, 1) := by decide +kernel
theorem dX2_init_38 : decode cX2_init 38 = .ok (.getfield 11, 3) := by decide +kernel
theorem dX2_init_41 : decode cX2_init 41 = .ok (.iload_n 1, 1) := by decide +kernel
theorem dX2_init_42 : decode cX2_init 42 = .ok (.new 9, 3) := by decide +kernel
theorem dX2_init_45 : decode cX2_init 45 = .ok (.dup, 1) := by decide +kernel
theorem dX2_init_46 : decode cX2_init 46 = .ok (.invokespecial 30, 3) := by decide +kernel
theorem dX2_init_49 : decode cX2_init 49 = .ok (.aastore, 1) := by decide +kernel
theorem dX2_init_50 : decode cX2_init 50 = .ok (.iinc 1 1, 3) := by decide +kernel
theorem dX2_init_53 : decode cX2_init 53 = .ok (.goto (-22), 3) := by decide +kernel
theorem dX2_init_56 : decode cX2_init 56 = .ok (.iconst 0, 1) := by decide +kernel
theorem dX2_init_57 : decode cX2_init 57 = .ok (.istore_n 1, 1) := by decide +kernel
theorem dX2_init_58 : decode cX2_init 58 = .ok (.iload_n 1, 1) := by decide +kernel
theorem dX2_init_59 : decode cX2_init 59 = .ok (.bipush 24, 2) := by decide +kernel
theorem dX2_init_61 : decode cX2_init 61 = .ok (.if_icmp .ge 22, 3) := by decide +kernel
theorem dX2_init_64 : decode cX2_init 64 = .ok (.aload_n 0, 1) := by decide +kernel
theorem dX2_init_65 : decode cX2_init 65 = .ok (.getfield 19, 3) := by decide +kernel
theorem dX2_init_68 : decode cX2_init 68 = .ok (.iload_n 1, 1) := by decide +kernel
theorem dX2_init_69 : decode cX2_init 69 = .ok (.new 17, 3) := by decide +kernel
theorem dX2_init_72 : decode cX2_init 72 = .ok (.dup, 1) := by decide +kernel
theorem dX2_init_73 : decode cX2_init 73 = .ok (.invokespecial 31, 3) := by decide +kernel
theorem dX2_init_76 : decode cX2_init 76 = .ok (.aastore, 1) := by decide +kernel
theorem dX2_init_77 : decode cX2_init 77 = .ok (.iinc 1 1, 3) := by decide +kernel
theorem dX2_init_80 : decode cX2_init 80 = .ok (.goto (-22), 3) := by decide +kernel
theorem dX2_init_83 : decode cX2_init 83 = .ok (.aload_n 0, 1) := by decide +kernel
theorem dX2_init_84 : decode cX2_init 84 = .ok (.invokevirtual 32, 3) := by decide +kernel
theorem dX2_init_87 : decode cX2_init 87 = .ok (.return_, 1) := by decide +kernel
theorem dX2_empty_0 : decode cX2_empty 0 = .ok (.aload_n 0, 1) := by decide +kernel
theorem dX2_empty_1 : decode cX2_empty 1 = .ok (.iconst 0, 1) := by decide +kernel
theorem dX2_empty_2 : decode cX2_empty 2 = .ok (.putfield 35, 3) := by decide +kernel
theorem dX2_empty_5 : decode cX2_empty 5 = .ok (.aload_n 0, 1) := by decide +kernel
theorem dX2_empty_6 : decode cX2_empty 6 = .ok (.iconst 0, 1) := by decide +kernel
theorem dX2_empty_7 : decode cX2_empty 7 = .ok (.putfield 39, 3) := by decide +kernel
theorem dX2_empty_10 : decode cX2_empty 10 = .ok (.aload_n 0, 1) := by decide +kernel
theorem dX2_empty_11 : decode cX2_empty 11 = .ok (.iconst 0, 1) := by decide +kernel
theorem dX2_empty_12 : decode cX2_empty 12 = .ok (.putfield 42, 3) := by decide +kernel
theorem dX2_empty_15 : decode cX2_empty 15 = .ok (.aload_n 0, 1) := by decide +kernel
theorem dX2_empty_16 : decode cX2_empty 16 = .ok (.bipush 100, 2) := by decide +kernel
theorem dX2_empty_18 : decode cX2_empty 18 = .ok (.putfield 45, 3) := by decide +kernel
theorem dX2_empty_21 : decode cX2_empty 21 = .ok (.aload_n 0, 1) := by decide +kernel
theorem dX2_empty_22 : decode cX2_empty 22 = .ok (.iconst 0, 1) := by decide +kernel
theorem dX2_empty_23 : decode cX2_empty 23 = .ok (.putfield 48, 3) := by decide +kernel
theorem dX2_empty_26 : decode cX2_empty 26 = .ok (.aload_n 0, 1) := by decide +kernel
theorem dX2_empty_27 : decode cX2_empty 27 = .ok (.iconst 1, 1) := by decide +kernel
theorem dX2_empty_28 : decode cX2_empty 28 = .ok (.putfield 51, 3) := by decide +kernel
theorem dX2_empty_31 : decode cX2_empty 31 = .ok (.aload_n 0, 1) := by decide +kernel
theorem dX2_empty_32 : decode cX2_empty 32 = .ok (.iconst 4, 1) := by decide +kernel
theorem dX2_empty_33 : decode cX2_empty 33 = .ok (.putfield 54, 3) := by decide +kernel
theorem dX2_empty_36 : decode cX2_empty 36 = .ok (.aload_n 0, 1) := by decide +kernel
theorem dX2_empty_37 : decode cX2_empty 37 = .ok (.lconst 0, 1) := by decide +kernel
theorem dX2_empty_38 : decode cX2_empty 38 = .ok (.putfield 57, 3) := by decide +kernel
theorem dX2_empty_41 : decode cX2_empty 41 = .ok (.aload_n 0, 1) := by decide +kernel
theorem dX2_empty_42 : decode cX2_empty 42 = .ok (.getstatic 23, 3) := by decide +kernel
theorem dX2_empty_45 : decode cX2_empty 45 = .ok (.putfield 27, 3) := by decide +kernel
theorem dX2_empty_48 : decode cX2_empty 48 = .ok (.return_, 1) := by decide +kernel
theorem dX2_copyFrom_0 : decode cX2_copyFrom 0 = .ok (.aload_n 0, 1) := by decide +kernel
theorem dX2_copyFrom_1 : decode cX2_copyFrom 1 = .ok (.aload_n 1, 1) := by decide +kernel
theorem dX2_copyFrom_2 : decode cX2_copyFrom 2 = .ok (.getfield 35, 3) := by decide +kernel
theorem dX2_copyFrom_5 : decode cX2_copyFrom 5 = .ok (.putfield 35, 3) := by decide +kernel
theorem dX2_copyFrom_8 : decode cX2_copyFrom 8 = .ok (.aload_n 0, 1) := by decide +kernel
theorem dX2_copyFrom_9 : decode cX2_copyFrom 9 = .ok (.aload_n 1, 1) := by decide +kernel
theorem dX2_copyFrom_10 : decode cX2_copyFrom 10 = .ok (.getfield 39, 3) := by decide +kernel
theorem dX2_copyFrom_13 : decode cX2_copyFrom 13 = .ok (.putfield 39, 3) := by decide +kernel
theorem dX2_copyFrom_16 : decode cX2_copyFrom 16 = .ok (.aload_n 0, 1) := by decide +kernel
theorem dX2_copyFrom_17 : decode cX2_copyFrom 17 = .ok (.aload_n 1, 1) := by decide +kernel
theorem dX2_copyFrom_18 : decode cX2_copyFrom 18 = .ok (.getfield 42, 3) := by decide +kernel
theorem dX2_copyFrom_21 : decode cX2_copyFrom 21 = .ok (.putfield 42, 3) := by decide +kernel
theorem dX2_copyFrom_24 : decode cX2_copyFrom 24 = .ok (.aload_n 0, 1) := by decide +kernel
theorem dX2_copyFrom_25 : decode cX2_copyFrom 25 = .ok (.aload_n 1, 1) := by decide +kernel
theorem dX2_copyFrom_26 : decode cX2_copyFrom 26 = .ok (.getfield 45, 3) := by decide +kernel
theorem dX2_copyFrom_29 : decode cX2_copyFrom 29 = .ok (.putfield 45, 3) := by decide +kernel
theorem dX2_copyFrom_32 : decode cX2_copyFrom 32 = .ok (.aload_n 0, 1) := by decide +kernel
theorem dX2_copyFrom_33 : decode cX2_copyFrom 33 = .ok (.aload_n 1, 1) := by decide +kernel
theorem dX2_copyFrom_34 : decode cX2_copyFrom 34 = .ok (.getfield 48, 3) := by decide +kernel
theorem dX2_copyFrom_37 : decode cX2_copyFrom 37 = .ok (.putfield 48, 3) := by decide +kernel
theorem dX2_copyFrom_40 : decode cX2_copyFrom 40 = .ok (.aload_n 0, 1) := by decide +kernel
theorem dX2_copyFrom_41 : decode cX2_copyFrom 41 = .ok (.aload_n 1, 1) := by decide +kernel
theorem dX2_copyFrom_42 : decode cX2_copyFrom 42 = .ok (.getfield 51, 3) := by decide +kernel
theorem dX2_copyFrom_45 : decode cX2_copyFrom 45 = .ok (.putfield 51, 3) := by decide +kernel
theorem dX2_copyFrom_48 : decode cX2_copyFrom 48 = .ok (.aload_n 0, 1) := by decide +kernel
theorem dX2_copyFrom_49 : decode cX2_copyFrom 49 = .ok (.aload_n 1, 1) := by decide +kernel
theorem dX2_copyFrom_50 : decode cX2_copyFrom 50 = .ok (.getfield 54, 3) := by decide +kernel
theorem dX2_copyFrom_53 : decode cX2_copyFrom 53 = .ok (.putfield 54, 3) := by decide +kernel
theorem dX2_copyFrom_56 : decode cX2_copyFrom 56 = .ok (.aload_n 0, 1) := by decide +kernel
theorem dX2_copyFrom_57 : decode cX2_copyFrom 57 = .ok (.aload_n 1, 1) := by decide +kernel
theorem dX2_copyFrom_58 : decode cX2_copyFrom 58 = .ok (.getfield 57, 3) := by decide +kernel
theorem dX2_copyFrom_61 : decode cX2_copyFrom 61 = .ok (.putfield 57, 3) := by decide +kernel
theorem dX2_copyFrom_64 : decode cX2_copyFrom 64 = .ok (.aload_n 0, 1) := by decide +kernel
theorem dX2_copyFrom_65 : decode cX2_copyFrom 65 = .ok (.aload_n 1, 1) := by decide +kernel
theorem dX2_copyFrom_66 : decode cX2_copyFrom 66 = .ok (.getfield 27, 3) := by decide +kernel
theorem dX2_copyFrom_69 : decode cX2_copyFrom 69 = .ok (.putfield 27, 3) := by decide +kernel
theorem dX2_copyFrom_72 : decode cX2_copyFrom 72 = .ok (.iconst 0, 1) := by decide +kernel
theorem dX2_copyFrom_73 : decode cX2_copyFrom 73 = .ok (.istore_n 2, 1) := by decide +kernel
theorem dX2_copyFrom_74 : decode cX2_copyFrom 74 = .ok (.iload_n 2, 1) := by decide +kernel
theorem dX2_copyFrom_75 : decode cX2_copyFrom 75 = .ok (.aload_n 0, 1) := by decide +kernel
theorem dX2_copyFrom_76 : decode cX2_copyFrom 76 = .ok (.getfield 35, 3) := by decide +kernel
theorem dX2_copyFrom_79 : decode cX2_copyFrom 79 = .ok (.if_icmp .ge 24, 3) := by decide +kernel
theorem dX2_copyFrom_82 : decode cX2_copyFrom 82 = .ok (.aload_n 0, 1) := by decide +kernel
theorem dX2_copyFrom_83 : decode cX2_copyFrom 83 = .ok (.getfield 11, 3) := by decide +kernel
theorem dX2_copyFrom_86 : decode cX2_copyFrom 86 = .ok (.iload_n 2, 1) := by decide +kernel
theorem dX2_copyFrom_87 : decode cX2_copyFrom 87 = .ok (.aaload, 1) := by decide +kernel
theorem dX2_copyFrom_88 : decode cX2_copyFrom 88 = .ok (.aload_n 1, 1) := by decide +kernel
theorem dX2_copyFrom_89 : decode cX2_copyFrom 89 = .ok (.getfield 11, 3) := by decide +kernel
theorem dX2_copyFrom_92 : decode cX2_copyFrom 92 = .ok (.iload_n 2, 1) := by decide +kernel
theorem dX2_copyFrom_93 : decode cX2_copyFrom 93 = .ok (.aaload, 1) := by decide +kernel
theorem dX2_copyFrom_94 : decode cX2_copyFrom 94 = .ok (.invokevirtual 61, 3) := by decide +kernel
theorem dX2_copyFrom_97 : decode cX2_copyFrom 97 = .ok (.iinc 2 1, 3) := by decide +kernel
theorem dX2_copyFrom_100 : decode cX2_copyFrom 100 = .ok (.goto (-26), 3) := by decide +kernel
theorem dX2_copyFrom_103 : decode cX2_copyFrom 103 = .ok (.iconst 0, 1) := by decide +kernel
theorem dX2_copyFrom_104 : decode cX2_copyFrom 104 = .ok (.istore_n 2, 1) := by decide +kernel
theorem dX2_copyFrom_105 : decode cX2_copyFrom 105 = .ok (.iload_n 2, 1) := by decide +kernel
theorem dX2_copyFrom_106 : decode cX2_copyFrom 106 = .ok (.aload_n 0, 1) := by decide +kernel
theorem dX2_copyFrom_107 : decode cX2_copyFrom 107 = .ok (.getfield 39, 3) := by decide +kernel
theorem dX2_copyFrom_110 : decode cX2_copyFrom 110 = .ok (.if_icmp .ge 24, 3) := by decide +kernel
theorem dX2_copyFrom_113 : decode cX2_copyFrom 113 = .ok (.aload_n 0, 1) := by decide +kernel
theorem dX2_copyFrom_114 : decode cX2_copyFrom 114 = .ok (.getfield 19, 3) := by decide +kernel
theorem dX2_copyFrom_117 : decode cX2_copyFrom 117 = .ok (.iload_n 2, 1) := by decide +kernel
theorem dX2_copyFrom_118 : decode cX2_copyFrom 118 = .ok (.aaload, 1) := by decide +kernel
theorem dX2_copyFrom_119 : decode cX2_copyFrom 119 = .ok (.aload_n 1, 1) := by decide +kernel
theorem dX2_copyFrom_120 : decode cX2_copyFrom 120 = .ok (.getfield 19, 3) := by decide +kernel
theorem dX2_copyFrom_123 : decode cX2_copyFrom 123 = .ok (.iload_n 2, 1) := by decide +kernel
theorem dX2_copyFrom_124 : decode cX2_copyFrom 124 = .ok (.aaload, 1) := by decide +kernel
theorem dX2_copyFrom_125 : decode cX2_copyFrom 125 = .ok (.invokevirtual 65, 3) := by decide +kernel
theorem dX2_copyFrom_128 : decode cX2_copyFrom 128 = .ok (.iinc 2 1, 3) := by decide +kernel
theorem dX2_copyFrom_131 : decode cX2_copyFrom 131 = .ok (.goto (-26), 3) := by decide +kernel
theorem dX2_copyFrom_134 : decode cX2_copyFrom 134 = .ok (.return_, 1) := by decide +kernel
theorem dX2_addDealer_0 : decode cX2_addDealer 0 = .ok (.aload_n 0, 1) := by decide +kernel
theorem dX2_addDealer_1 : decode cX2_addDealer 1 = .ok (.getfield 35, 3) := by decide +kernel
theorem dX2_addDealer_4 : decode cX2_addDealer 4 = .ok (.bipush 8, 2) := by decide +kernel
theorem dX2_addDealer_6 : decode cX2_addDealer 6 = .ok (.if_icmp .ge 26, 3) := by decide +kernel
theorem dX2_addDealer_9 : decode cX2_addDealer 9 = .ok (.aload_n 0, 1) := by decide +kernel
theorem dX2_addDealer_10 : decode cX2_addDealer 10 = .ok (.getfield 11, 3) := by decide +kernel
theorem dX2_addDealer_13 : decode cX2_addDealer 13 = .ok (.aload_n 0, 1) := by decide +kernel
theorem dX2_addDealer_14 : decode cX2_addDealer 14 = .ok (.getfield 35, 3) := by decide +kernel
theorem dX2_addDealer_17 : decode cX2_addDealer 17 = .ok (.aaload, 1) := by decide +kernel
theorem dX2_addDealer_18 : decode cX2_addDealer 18 = .ok (.iload_n 1, 1) := by decide +kernel
theorem dX2_addDealer_19 : decode cX2_addDealer 19 = .ok (.invokevirtual 68, 3) := by decide +kernel
theorem dX2_addDealer_22 : decode cX2_addDealer 22 = .ok (.aload_n 0, 1) := by decide +kernel
theorem dX2_addDealer_23 : decode cX2_addDealer 23 = .ok (.dup, 1) := by decide +kernel
theorem dX2_addDealer_24 : decode cX2_addDealer 24 = .ok (.getfield 35, 3) := by decide +kernel
theorem dX2_addDealer_27 : decode cX2_addDealer 27 = .ok (.iconst 1, 1) := by decide +kernel
theorem dX2_addDealer_28 : decode cX2_addDealer 28 = .ok (.iadd, 1) := by decide +kernel
theorem dX2_addDealer_29 : decode cX2_addDealer 29 = .ok (.putfield 35, 3) := by decide +kernel
theorem dX2_addDealer_32 : decode cX2_addDealer 32 = .ok (.return_, 1) := by decide +kernel
theorem dX2_addSale_0 : decode cX2_addSale 0 = .ok (.aload_n 0, 1) := by decide +kernel
theorem dX2_addSale_1 : decode cX2_addSale 1 = .ok (.getfield 39, 3) := by decide +kernel
theorem dX2_addSale_4 : decode cX2_addSale 4 = .ok (.bipush 24, 2) := by decide +kernel
theorem dX2_addSale_6 : decode cX2_addSale 6 = .ok (.if_icmp .lt 4, 3) := by decide +kernel
theorem dX2_addSale_9 : decode cX2_addSale 9 = .ok (.return_, 1) := by decide +kernel
theorem dX2_addSale_10 : decode cX2_addSale 10 = .ok (.aload_n 0, 1) := by decide +kernel
theorem dX2_addSale_11 : decode cX2_addSale 11 = .ok (.getfield 19, 3) := by decide +kernel
theorem dX2_addSale_14 : decode cX2_addSale 14 = .ok (.aload_n 0, 1) := by decide +kernel
theorem dX2_addSale_15 : decode cX2_addSale 15 = .ok (.getfield 39, 3) := by decide +kernel
theorem dX2_addSale_18 : decode cX2_addSale 18 = .ok (.aaload, 1) := by decide +kernel
theorem dX2_addSale_19 : decode cX2_addSale 19 = .ok (.astore 6, 2) := by decide +kernel
theorem dX2_addSale_21 : decode cX2_addSale 21 = .ok (.aload 6, 2) := by decide +kernel
theorem dX2_addSale_23 : decode cX2_addSale 23 = .ok (.iload_n 1, 1) := by decide +kernel
theorem dX2_addSale_24 : decode cX2_addSale 24 = .ok (.putfield 72, 3) := by decide +kernel
theorem dX2_addSale_27 : decode cX2_addSale 27 = .ok (.aload 6, 2) := by decide +kernel
theorem dX2_addSale_29 : decode cX2_addSale 29 = .ok (.iload_n 2, 1) := by decide +kernel
theorem dX2_addSale_30 : decode cX2_addSale 30 = .ok (.putfield 75, 3) := by decide +kernel
theorem dX2_addSale_33 : decode cX2_addSale 33 = .ok (.aload 6, 2) := by decide +kernel
theorem dX2_addSale_35 : decode cX2_addSale 35 = .ok (.iload_n 3, 1) := by decide +kernel
theorem dX2_addSale_36 : decode cX2_addSale 36 = .ok (.putfield 78, 3) := by decide +kernel
theorem dX2_addSale_39 : decode cX2_addSale 39 = .ok (.aload 6, 2) := by decide +kernel
theorem dX2_addSale_41 : decode cX2_addSale 41 = .ok (.iload 4, 2) := by decide +kernel
theorem dX2_addSale_43 : decode cX2_addSale 43 = .ok (.putfield 81, 3) := by decide +kernel
theorem dX2_addSale_46 : decode cX2_addSale 46 = .ok (.aload 6, 2) := by decide +kernel
theorem dX2_addSale_48 : decode cX2_addSale 48 = .ok (.iload 5, 2) := by decide +kernel
theorem dX2_addSale_50 : decode cX2_addSale 50 = .ok (.putfield 84, 3) := by decide +kernel
theorem dX2_addSale_53 : decode cX2_addSale 53 = .ok (.aload 6, 2) := by decide +kernel
theorem dX2_addSale_55 : decode cX2_addSale 55 = .ok (.iload_n 3, 1) := by decide +kernel
theorem dX2_addSale_56 : decode cX2_addSale 56 = .ok (.putfield 87, 3) := by decide +kernel
theorem dX2_addSale_59 : decode cX2_addSale 59 = .ok (.aload 6, 2) := by decide +kernel
theorem dX2_addSale_61 : decode cX2_addSale 61 = .ok (.iconst 0, 1) := by decide +kernel
theorem dX2_addSale_62 : decode cX2_addSale 62 = .ok (.putfield 90, 3) := by decide +kernel
theorem dX2_addSale_65 : decode cX2_addSale 65 = .ok (.aload 6, 2) := by decide +kernel
theorem dX2_addSale_67 : decode cX2_addSale 67 = .ok (.iconst 0, 1) := by decide +kernel
theorem dX2_addSale_68 : decode cX2_addSale 68 = .ok (.putfield 93, 3) := by decide +kernel
theorem dX2_addSale_71 : decode cX2_addSale 71 = .ok (.aload 6, 2) := by decide +kernel
theorem dX2_addSale_73 : decode cX2_addSale 73 = .ok (.iconst 0, 1) := by decide +kernel
theorem dX2_addSale_74 : decode cX2_addSale 74 = .ok (.putfield 96, 3) := by decide +kernel
theorem dX2_addSale_77 : decode cX2_addSale 77 = .ok (.aload_n 0, 1) := by decide +kernel
theorem dX2_addSale_78 : decode cX2_addSale 78 = .ok (.dup, 1) := by decide +kernel
theorem dX2_addSale_79 : decode cX2_addSale 79 = .ok (.getfield 39, 3) := by decide +kernel
theorem dX2_addSale_82 : decode cX2_addSale 82 = .ok (.iconst 1, 1) := by decide +kernel
theorem dX2_addSale_83 : decode cX2_addSale 83 = .ok (.iadd, 1) := by decide +kernel
theorem dX2_addSale_84 : decode cX2_addSale 84 = .ok (.putfield 39, 3) := by decide +kernel
theorem dX2_addSale_87 : decode cX2_addSale 87 = .ok (.return_, 1) := by decide +kernel
theorem dX2_isAsked_0 : decode cX2_isAsked 0 = .ok (.aload_n 0, 1) := by decide +kernel
theorem dX2_isAsked_1 : decode cX2_isAsked 1 = .ok (.getfield 19, 3) := by decide +kernel
theorem dX2_isAsked_4 : decode cX2_isAsked 4 = .ok (.iload_n 1, 1) := by decide +kernel
theorem dX2_isAsked_5 : decode cX2_isAsked 5 = .ok (.aaload, 1) := by decide +kernel
theorem dX2_isAsked_6 : decode cX2_isAsked 6 = .ok (.getfield 84, 3) := by decide +kernel
theorem dX2_isAsked_9 : decode cX2_isAsked 9 = .ok (.aload_n 0, 1) := by decide +kernel
theorem dX2_isAsked_10 : decode cX2_isAsked 10 = .ok (.getfield 42, 3) := by decide +kernel
theorem dX2_isAsked_13 : decode cX2_isAsked 13 = .ok (.if_icmp .gt 19, 3) := by decide +kernel
theorem dX2_isAsked_16 : decode cX2_isAsked 16 = .ok (.aload_n 0, 1) := by decide +kernel
theorem dX2_isAsked_17 : decode cX2_isAsked 17 = .ok (.getfield 19, 3) := by decide +kernel
theorem dX2_isAsked_20 : decode cX2_isAsked 20 = .ok (.iload_n 1, 1) := by decide +kernel
theorem dX2_isAsked_21 : decode cX2_isAsked 21 = .ok (.aaload, 1) := by decide +kernel
theorem dX2_isAsked_22 : decode cX2_isAsked 22 = .ok (.getfield 87, 3) := by decide +kernel
theorem dX2_isAsked_25 : decode cX2_isAsked 25 = .ok (.ifCond .le 7, 3) := by decide +kernel
theorem dX2_isAsked_28 : decode cX2_isAsked 28 = .ok (.iconst 1, 1) := by decide +kernel
theorem dX2_isAsked_29 : decode cX2_isAsked 29 = .ok (.goto 4, 3) := by decide +kernel
theorem dX2_isAsked_32 : decode cX2_isAsked 32 = .ok (.iconst 0, 1) := by decide +kernel
theorem dX2_isAsked_33 : decode cX2_isAsked 33 = .ok (.ireturn, 1) := by decide +kernel
theorem dX2_leaveOut_0 : decode cX2_leaveOut 0 = .ok (.aload_n 0, 1) := by decide +kernel
theorem dX2_leaveOut_1 : decode cX2_leaveOut 1 = .ok (.getfield 19, 3) := by decide +kernel
theorem dX2_leaveOut_4 : decode cX2_leaveOut 4 = .ok (.iload_n 1, 1) := by decide +kernel
theorem dX2_leaveOut_5 : decode cX2_leaveOut 5 = .ok (.aaload, 1) := by decide +kernel
theorem dX2_leaveOut_6 : decode cX2_leaveOut 6 = .ok (.iconst 0, 1) := by decide +kernel
theorem dX2_leaveOut_7 : decode cX2_leaveOut 7 = .ok (.putfield 87, 3) := by decide +kernel
theorem dX2_leaveOut_10 : decode cX2_leaveOut 10 = .ok (.return_, 1) := by decide +kernel
theorem dX2_countFails_0 : decode cX2_countFails 0 = .ok (.iconst 0, 1) := by decide +kernel
theorem dX2_countFails_1 : decode cX2_countFails 1 = .ok (.istore_n 1, 1) := by decide +kernel
theorem dX2_countFails_2 : decode cX2_countFails 2 = .ok (.iconst 0, 1) := by decide +kernel
theorem dX2_countFails_3 : decode cX2_countFails 3 = .ok (.istore_n 2, 1) := by decide +kernel
theorem dX2_countFails_4 : decode cX2_countFails 4 = .ok (.iload_n 2, 1) := by decide +kernel
theorem dX2_countFails_5 : decode cX2_countFails 5 = .ok (.aload_n 0, 1) := by decide +kernel
theorem dX2_countFails_6 : decode cX2_countFails 6 = .ok (.getfield 39, 3) := by decide +kernel
theorem dX2_countFails_9 : decode cX2_countFails 9 = .ok (.if_icmp .ge 25, 3) := by decide +kernel
theorem dX2_countFails_12 : decode cX2_countFails 12 = .ok (.iload_n 1, 1) := by decide +kernel
theorem dX2_countFails_13 : decode cX2_countFails 13 = .ok (.aload_n 0, 1) := by decide +kernel
theorem dX2_countFails_14 : decode cX2_countFails 14 = .ok (.iload_n 2, 1) := by decide +kernel
theorem dX2_countFails_15 : decode cX2_countFails 15 = .ok (.invokevirtual 99, 3) := by decide +kernel
theorem dX2_countFails_18 : decode cX2_countFails 18 = .ok (.ifCond .eq 7, 3) := by decide +kernel
theorem dX2_countFails_21 : decode cX2_countFails 21 = .ok (.iconst 1, 1) := by decide +kernel
theorem dX2_countFails_22 : decode cX2_countFails 22 = .ok (.goto 4, 3) := by decide +kernel
theorem dX2_countFails_25 : decode cX2_countFails 25 = .ok (.iconst 0, 1) := by decide +kernel
theorem dX2_countFails_26 : decode cX2_countFails 26 = .ok (.iadd, 1) := by decide +kernel
theorem dX2_countFails_27 : decode cX2_countFails 27 = .ok (.istore_n 1, 1) := by decide +kernel
theorem dX2_countFails_28 : decode cX2_countFails 28 = .ok (.iinc 2 1, 3) := by decide +kernel
theorem dX2_countFails_31 : decode cX2_countFails 31 = .ok (.goto (-27), 3) := by decide +kernel
theorem dX2_countFails_34 : decode cX2_countFails 34 = .ok (.iload_n 1, 1) := by decide +kernel
theorem dX2_countFails_35 : decode cX2_countFails 35 = .ok (.ireturn, 1) := by decide +kernel
theorem dX2_unitsOfFails_0 : decode cX2_unitsOfFails 0 = .ok (.iconst 0, 1) := by decide +kernel
theorem dX2_unitsOfFails_1 : decode cX2_unitsOfFails 1 = .ok (.istore_n 3, 1) := by decide +kernel
theorem dX2_unitsOfFails_2 : decode cX2_unitsOfFails 2 = .ok (.iconst 0, 1) := by decide +kernel
theorem dX2_unitsOfFails_3 : decode cX2_unitsOfFails 3 = .ok (.istore 4, 2) := by decide +kernel
theorem dX2_unitsOfFails_5 : decode cX2_unitsOfFails 5 = .ok (.iload 4, 2) := by decide +kernel
theorem dX2_unitsOfFails_7 : decode cX2_unitsOfFails 7 = .ok (.aload_n 0, 1) := by decide +kernel
theorem dX2_unitsOfFails_8 : decode cX2_unitsOfFails 8 = .ok (.getfield 39, 3) := by decide +kernel
theorem dX2_unitsOfFails_11 : decode cX2_unitsOfFails 11 = .ok (.if_icmp .ge 93, 3) := by decide +kernel
theorem dX2_unitsOfFails_14 : decode cX2_unitsOfFails 14 = .ok (.iload_n 1, 1) := by decide +kernel
theorem dX2_unitsOfFails_15 : decode cX2_unitsOfFails 15 = .ok (.iconst (-1), 1) := by decide +kernel
theorem dX2_unitsOfFails_16 : decode cX2_unitsOfFails 16 = .ok (.if_icmp .eq 17, 3) := by decide +kernel
theorem dX2_unitsOfFails_19 : decode cX2_unitsOfFails 19 = .ok (.aload_n 0, 1) := by decide +kernel
theorem dX2_unitsOfFails_20 : decode cX2_unitsOfFails 20 = .ok (.getfield 19, 3) := by decide +kernel
theorem dX2_unitsOfFails_23 : decode cX2_unitsOfFails 23 = .ok (.iload 4, 2) := by decide +kernel
theorem dX2_unitsOfFails_25 : decode cX2_unitsOfFails 25 = .ok (.aaload, 1) := by decide +kernel
theorem dX2_unitsOfFails_26 : decode cX2_unitsOfFails 26 = .ok (.getfield 72, 3) := by decide +kernel
theorem dX2_unitsOfFails_29 : decode cX2_unitsOfFails 29 = .ok (.iload_n 1, 1) := by decide +kernel
theorem dX2_unitsOfFails_30 : decode cX2_unitsOfFails 30 = .ok (.if_icmp .ne 7, 3) := by decide +kernel
theorem dX2_unitsOfFails_33 : decode cX2_unitsOfFails 33 = .ok (.iconst 1, 1) := by decide +kernel
theorem dX2_unitsOfFails_34 : decode cX2_unitsOfFails 34 = .ok (.goto 4, 3) := by decide +kernel
theorem dX2_unitsOfFails_37 : decode cX2_unitsOfFails 37 = .ok (.iconst 0, 1) := by decide +kernel
theorem dX2_unitsOfFails_38 : decode cX2_unitsOfFails 38 = .ok (.istore 5, 2) := by decide +kernel
theorem dX2_unitsOfFails_40 : decode cX2_unitsOfFails 40 = .ok (.iload_n 2, 1) := by decide +kernel
theorem dX2_unitsOfFails_41 : decode cX2_unitsOfFails 41 = .ok (.iconst (-1), 1) := by decide +kernel
theorem dX2_unitsOfFails_42 : decode cX2_unitsOfFails 42 = .ok (.if_icmp .eq 17, 3) := by decide +kernel
theorem dX2_unitsOfFails_45 : decode cX2_unitsOfFails 45 = .ok (.aload_n 0, 1) := by decide +kernel
theorem dX2_unitsOfFails_46 : decode cX2_unitsOfFails 46 = .ok (.getfield 19, 3) := by decide +kernel
theorem dX2_unitsOfFails_49 : decode cX2_unitsOfFails 49 = .ok (.iload 4, 2) := by decide +kernel
theorem dX2_unitsOfFails_51 : decode cX2_unitsOfFails 51 = .ok (.aaload, 1) := by decide +kernel
theorem dX2_unitsOfFails_52 : decode cX2_unitsOfFails 52 = .ok (.getfield 75, 3) := by decide +kernel
theorem dX2_unitsOfFails_55 : decode cX2_unitsOfFails 55 = .ok (.iload_n 2, 1) := by decide +kernel
theorem dX2_unitsOfFails_56 : decode cX2_unitsOfFails 56 = .ok (.if_icmp .ne 7, 3) := by decide +kernel
theorem dX2_unitsOfFails_59 : decode cX2_unitsOfFails 59 = .ok (.iconst 1, 1) := by decide +kernel
theorem dX2_unitsOfFails_60 : decode cX2_unitsOfFails 60 = .ok (.goto 4, 3) := by decide +kernel
theorem dX2_unitsOfFails_63 : decode cX2_unitsOfFails 63 = .ok (.iconst 0, 1) := by decide +kernel
theorem dX2_unitsOfFails_64 : decode cX2_unitsOfFails 64 = .ok (.istore 6, 2) := by decide +kernel
theorem dX2_unitsOfFails_66 : decode cX2_unitsOfFails 66 = .ok (.iload 5, 2) := by decide +kernel
theorem dX2_unitsOfFails_68 : decode cX2_unitsOfFails 68 = .ok (.ifCond .eq 30, 3) := by decide +kernel
theorem dX2_unitsOfFails_71 : decode cX2_unitsOfFails 71 = .ok (.iload 6, 2) := by decide +kernel
theorem dX2_unitsOfFails_73 : decode cX2_unitsOfFails 73 = .ok (.ifCond .eq 25, 3) := by decide +kernel
theorem dX2_unitsOfFails_76 : decode cX2_unitsOfFails 76 = .ok (.aload_n 0, 1) := by decide +kernel
theorem dX2_unitsOfFails_77 : decode cX2_unitsOfFails 77 = .ok (.iload 4, 2) := by decide +kernel
theorem dX2_unitsOfFails_79 : decode cX2_unitsOfFails 79 = .ok (.invokevirtual 99, 3) := by decide +kernel
theorem dX2_unitsOfFails_82 : decode cX2_unitsOfFails 82 = .ok (.ifCond .eq 16, 3) := by decide +kernel
theorem dX2_unitsOfFails_85 : decode cX2_unitsOfFails 85 = .ok (.iload_n 3, 1) := by decide +kernel
theorem dX2_unitsOfFails_86 : decode cX2_unitsOfFails 86 = .ok (.aload_n 0, 1) := by decide +kernel
theorem dX2_unitsOfFails_87 : decode cX2_unitsOfFails 87 = .ok (.getfield 19, 3) := by decide +kernel
theorem dX2_unitsOfFails_90 : decode cX2_unitsOfFails 90 = .ok (.iload 4, 2) := by decide +kernel
theorem dX2_unitsOfFails_92 : decode cX2_unitsOfFails 92 = .ok (.aaload, 1) := by decide +kernel
theorem dX2_unitsOfFails_93 : decode cX2_unitsOfFails 93 = .ok (.getfield 87, 3) := by decide +kernel
theorem dX2_unitsOfFails_96 : decode cX2_unitsOfFails 96 = .ok (.iadd, 1) := by decide +kernel
theorem dX2_unitsOfFails_97 : decode cX2_unitsOfFails 97 = .ok (.istore_n 3, 1) := by decide +kernel
theorem dX2_unitsOfFails_98 : decode cX2_unitsOfFails 98 = .ok (.iinc 4 1, 3) := by decide +kernel
theorem dX2_unitsOfFails_101 : decode cX2_unitsOfFails 101 = .ok (.goto (-96), 3) := by decide +kernel
theorem dX2_unitsOfFails_104 : decode cX2_unitsOfFails 104 = .ok (.iload_n 3, 1) := by decide +kernel
theorem dX2_unitsOfFails_105 : decode cX2_unitsOfFails 105 = .ok (.ireturn, 1) := by decide +kernel
theorem dX2_valueOfFails_0 : decode cX2_valueOfFails 0 = .ok (.lconst 0, 1) := by decide +kernel
theorem dX2_valueOfFails_1 : decode cX2_valueOfFails 1 = .ok (.lstore_n 1, 1) := by decide +kernel
theorem dX2_valueOfFails_2 : decode cX2_valueOfFails 2 = .ok (.iconst 0, 1) := by decide +kernel
theorem dX2_valueOfFails_3 : decode cX2_valueOfFails 3 = .ok (.istore_n 3, 1) := by decide +kernel
theorem dX2_valueOfFails_4 : decode cX2_valueOfFails 4 = .ok (.iload_n 3, 1) := by decide +kernel
theorem dX2_valueOfFails_5 : decode cX2_valueOfFails 5 = .ok (.aload_n 0, 1) := by decide +kernel
theorem dX2_valueOfFails_6 : decode cX2_valueOfFails 6 = .ok (.getfield 39, 3) := by decide +kernel
theorem dX2_valueOfFails_9 : decode cX2_valueOfFails 9 = .ok (.if_icmp .ge 41, 3) := by decide +kernel
theorem dX2_valueOfFails_12 : decode cX2_valueOfFails 12 = .ok (.aload_n 0, 1) := by decide +kernel
theorem dX2_valueOfFails_13 : decode cX2_valueOfFails 13 = .ok (.iload_n 3, 1) := by decide +kernel
theorem dX2_valueOfFails_14 : decode cX2_valueOfFails 14 = .ok (.invokevirtual 99, 3) := by decide +kernel
theorem dX2_valueOfFails_17 : decode cX2_valueOfFails 17 = .ok (.ifCond .eq 27, 3) := by decide +kernel
theorem dX2_valueOfFails_20 : decode cX2_valueOfFails 20 = .ok (.lload_n 1, 1) := by decide +kernel
theorem dX2_valueOfFails_21 : decode cX2_valueOfFails 21 = .ok (.aload_n 0, 1) := by decide +kernel
theorem dX2_valueOfFails_22 : decode cX2_valueOfFails 22 = .ok (.getfield 19, 3) := by decide +kernel
theorem dX2_valueOfFails_25 : decode cX2_valueOfFails 25 = .ok (.iload_n 3, 1) := by decide +kernel
theorem dX2_valueOfFails_26 : decode cX2_valueOfFails 26 = .ok (.aaload, 1) := by decide +kernel
theorem dX2_valueOfFails_27 : decode cX2_valueOfFails 27 = .ok (.getfield 81, 3) := by decide +kernel
theorem dX2_valueOfFails_30 : decode cX2_valueOfFails 30 = .ok (.i2l, 1) := by decide +kernel
theorem dX2_valueOfFails_31 : decode cX2_valueOfFails 31 = .ok (.aload_n 0, 1) := by decide +kernel
theorem dX2_valueOfFails_32 : decode cX2_valueOfFails 32 = .ok (.getfield 19, 3) := by decide +kernel
theorem dX2_valueOfFails_35 : decode cX2_valueOfFails 35 = .ok (.iload_n 3, 1) := by decide +kernel
theorem dX2_valueOfFails_36 : decode cX2_valueOfFails 36 = .ok (.aaload, 1) := by decide +kernel
theorem dX2_valueOfFails_37 : decode cX2_valueOfFails 37 = .ok (.getfield 87, 3) := by decide +kernel
theorem dX2_valueOfFails_40 : decode cX2_valueOfFails 40 = .ok (.i2l, 1) := by decide +kernel
theorem dX2_valueOfFails_41 : decode cX2_valueOfFails 41 = .ok (.lmul, 1) := by decide +kernel
theorem dX2_valueOfFails_42 : decode cX2_valueOfFails 42 = .ok (.ladd, 1) := by decide +kernel
theorem dX2_valueOfFails_43 : decode cX2_valueOfFails 43 = .ok (.lstore_n 1, 1) := by decide +kernel
theorem dX2_valueOfFails_44 : decode cX2_valueOfFails 44 = .ok (.iinc 3 1, 3) := by decide +kernel
theorem dX2_valueOfFails_47 : decode cX2_valueOfFails 47 = .ok (.goto (-43), 3) := by decide +kernel
theorem dX2_valueOfFails_50 : decode cX2_valueOfFails 50 = .ok (.lload_n 1, 1) := by decide +kernel
theorem dX2_valueOfFails_51 : decode cX2_valueOfFails 51 = .ok (.lreturn, 1) := by decide +kernel
theorem dX2_sellsAsked_0 : decode cX2_sellsAsked 0 = .ok (.aload_n 0, 1) := by decide +kernel
theorem dX2_sellsAsked_1 : decode cX2_sellsAsked 1 = .ok (.iload_n 1, 1) := by decide +kernel
theorem dX2_sellsAsked_2 : decode cX2_sellsAsked 2 = .ok (.iconst (-1), 1) := by decide +kernel
theorem dX2_sellsAsked_3 : decode cX2_sellsAsked 3 = .ok (.invokevirtual 103, 3) := by decide +kernel
theorem dX2_sellsAsked_6 : decode cX2_sellsAsked 6 = .ok (.ifCond .le 7, 3) := by decide +kernel
theorem dX2_sellsAsked_9 : decode cX2_sellsAsked 9 = .ok (.iconst 1, 1) := by decide +kernel
theorem dX2_sellsAsked_10 : decode cX2_sellsAsked 10 = .ok (.goto 4, 3) := by decide +kernel
theorem dX2_sellsAsked_13 : decode cX2_sellsAsked 13 = .ok (.iconst 0, 1) := by decide +kernel
theorem dX2_sellsAsked_14 : decode cX2_sellsAsked 14 = .ok (.ireturn, 1) := by decide +kernel
theorem dX2_wholeLots_0 : decode cX2_wholeLots 0 = .ok (.aload_n 0, 1) := by decide +kernel
theorem dX2_wholeLots_1 : decode cX2_wholeLots 1 = .ok (.getfield 51, 3) := by decide +kernel
theorem dX2_wholeLots_4 : decode cX2_wholeLots 4 = .ok (.iconst 1, 1) := by decide +kernel
theorem dX2_wholeLots_5 : decode cX2_wholeLots 5 = .ok (.if_icmp .ge 7, 3) := by decide +kernel
theorem dX2_wholeLots_8 : decode cX2_wholeLots 8 = .ok (.iconst 0, 1) := by decide +kernel
theorem dX2_wholeLots_9 : decode cX2_wholeLots 9 = .ok (.goto 11, 3) := by decide +kernel
theorem dX2_wholeLots_12 : decode cX2_wholeLots 12 = .ok (.iload_n 1, 1) := by decide +kernel
theorem dX2_wholeLots_13 : decode cX2_wholeLots 13 = .ok (.iload_n 1, 1) := by decide +kernel
theorem dX2_wholeLots_14 : decode cX2_wholeLots 14 = .ok (.aload_n 0, 1) := by decide +kernel
theorem dX2_wholeLots_15 : decode cX2_wholeLots 15 = .ok (.getfield 51, 3) := by decide +kernel
theorem dX2_wholeLots_18 : decode cX2_wholeLots 18 = .ok (.irem, 1) := by decide +kernel
theorem dX2_wholeLots_19 : decode cX2_wholeLots 19 = .ok (.isub, 1) := by decide +kernel
theorem dX2_wholeLots_20 : decode cX2_wholeLots 20 = .ok (.ireturn, 1) := by decide +kernel
theorem dX2_payForUnits_0 : decode cX2_payForUnits 0 = .ok (.iload_n 2, 1) := by decide +kernel
theorem dX2_payForUnits_1 : decode cX2_payForUnits 1 = .ok (.i2l, 1) := by decide +kernel
theorem dX2_payForUnits_2 : decode cX2_payForUnits 2 = .ok (.aload_n 1, 1) := by decide +kernel
theorem dX2_payForUnits_3 : decode cX2_payForUnits 3 = .ok (.getfield 81, 3) := by decide +kernel
theorem dX2_payForUnits_6 : decode cX2_payForUnits 6 = .ok (.i2l, 1) := by decide +kernel
theorem dX2_payForUnits_7 : decode cX2_payForUnits 7 = .ok (.lmul, 1) := by decide +kernel
theorem dX2_payForUnits_8 : decode cX2_payForUnits 8 = .ok (.lstore_n 3, 1) := by decide +kernel
theorem dX2_payForUnits_9 : decode cX2_payForUnits 9 = .ok (.aload_n 0, 1) := by decide +kernel
theorem dX2_payForUnits_10 : decode cX2_payForUnits 10 = .ok (.getfield 11, 3) := by decide +kernel
theorem dX2_payForUnits_13 : decode cX2_payForUnits 13 = .ok (.aload_n 1, 1) := by decide +kernel
theorem dX2_payForUnits_14 : decode cX2_payForUnits 14 = .ok (.getfield 75, 3) := by decide +kernel
theorem dX2_payForUnits_17 : decode cX2_payForUnits 17 = .ok (.aaload, 1) := by decide +kernel
theorem dX2_payForUnits_18 : decode cX2_payForUnits 18 = .ok (.dup, 1) := by decide +kernel
theorem dX2_payForUnits_19 : decode cX2_payForUnits 19 = .ok (.getfield 107, 3) := by decide +kernel
theorem dX2_payForUnits_22 : decode cX2_payForUnits 22 = .ok (.lload_n 3, 1) := by decide +kernel
theorem dX2_payForUnits_23 : decode cX2_payForUnits 23 = .ok (.lsub, 1) := by decide +kernel
theorem dX2_payForUnits_24 : decode cX2_payForUnits 24 = .ok (.putfield 107, 3) := by decide +kernel
theorem dX2_payForUnits_27 : decode cX2_payForUnits 27 = .ok (.aload_n 0, 1) := by decide +kernel
theorem dX2_payForUnits_28 : decode cX2_payForUnits 28 = .ok (.getfield 11, 3) := by decide +kernel
theorem dX2_payForUnits_31 : decode cX2_payForUnits 31 = .ok (.aload_n 1, 1) := by decide +kernel
theorem dX2_payForUnits_32 : decode cX2_payForUnits 32 = .ok (.getfield 72, 3) := by decide +kernel
theorem dX2_payForUnits_35 : decode cX2_payForUnits 35 = .ok (.aaload, 1) := by decide +kernel
theorem dX2_payForUnits_36 : decode cX2_payForUnits 36 = .ok (.dup, 1) := by decide +kernel
theorem dX2_payForUnits_37 : decode cX2_payForUnits 37 = .ok (.getfield 107, 3) := by decide +kernel
theorem dX2_payForUnits_40 : decode cX2_payForUnits 40 = .ok (.lload_n 3, 1) := by decide +kernel
theorem dX2_payForUnits_41 : decode cX2_payForUnits 41 = .ok (.ladd, 1) := by decide +kernel
theorem dX2_payForUnits_42 : decode cX2_payForUnits 42 = .ok (.putfield 107, 3) := by decide +kernel
theorem dX2_payForUnits_45 : decode cX2_payForUnits 45 = .ok (.aload_n 1, 1) := by decide +kernel
theorem dX2_payForUnits_46 : decode cX2_payForUnits 46 = .ok (.dup, 1) := by decide +kernel
theorem dX2_payForUnits_47 : decode cX2_payForUnits 47 = .ok (.getfield 87, 3) := by decide +kernel
theorem dX2_payForUnits_50 : decode cX2_payForUnits 50 = .ok (.iload_n 2, 1) := by decide +kernel
theorem dX2_payForUnits_51 : decode cX2_payForUnits 51 = .ok (.isub, 1) := by decide +kernel
theorem dX2_payForUnits_52 : decode cX2_payForUnits 52 = .ok (.putfield 87, 3) := by decide +kernel
theorem dX2_payForUnits_55 : decode cX2_payForUnits 55 = .ok (.return_, 1) := by decide +kernel
theorem dX2_settleInRing_0 : decode cX2_settleInRing 0 = .ok (.aload_n 0, 1) := by decide +kernel
theorem dX2_settleInRing_1 : decode cX2_settleInRing 1 = .ok (.aload_n 0, 1) := by decide +kernel
theorem dX2_settleInRing_2 : decode cX2_settleInRing 2 = .ok (.getfield 19, 3) := by decide +kernel
theorem dX2_settleInRing_5 : decode cX2_settleInRing 5 = .ok (.iload_n 1, 1) := by decide +kernel
theorem dX2_settleInRing_6 : decode cX2_settleInRing 6 = .ok (.aaload, 1) := by decide +kernel
theorem dX2_settleInRing_7 : decode cX2_settleInRing 7 = .ok (.iload_n 2, 1) := by decide +kernel
theorem dX2_settleInRing_8 : decode cX2_settleInRing 8 = .ok (.invokevirtual 110, 3) := by decide +kernel
theorem dX2_settleInRing_11 : decode cX2_settleInRing 11 = .ok (.aload_n 0, 1) := by decide +kernel
theorem dX2_settleInRing_12 : decode cX2_settleInRing 12 = .ok (.getfield 19, 3) := by decide +kernel
theorem dX2_settleInRing_15 : decode cX2_settleInRing 15 = .ok (.iload_n 1, 1) := by decide +kernel
theorem dX2_settleInRing_16 : decode cX2_settleInRing 16 = .ok (.aaload, 1) := by decide +kernel
theorem dX2_settleInRing_17 : decode cX2_settleInRing 17 = .ok (.dup, 1) := by decide +kernel
theorem dX2_settleInRing_18 : decode cX2_settleInRing 18 = .ok (.getfield 90, 3) := by decide +kernel
theorem dX2_settleInRing_21 : decode cX2_settleInRing 21 = .ok (.iload_n 2, 1) := by decide +kernel
theorem dX2_settleInRing_22 : decode cX2_settleInRing 22 = .ok (.iadd, 1) := by decide +kernel
theorem dX2_settleInRing_23 : decode cX2_settleInRing 23 = .ok (.putfield 90, 3) := by decide +kernel
theorem dX2_settleInRing_26 : decode cX2_settleInRing 26 = .ok (.return_, 1) := by decide +kernel
theorem dX2_deliver_0 : decode cX2_deliver 0 = .ok (.aload_n 0, 1) := by decide +kernel
theorem dX2_deliver_1 : decode cX2_deliver 1 = .ok (.aload_n 0, 1) := by decide +kernel
theorem dX2_deliver_2 : decode cX2_deliver 2 = .ok (.getfield 19, 3) := by decide +kernel
theorem dX2_deliver_5 : decode cX2_deliver 5 = .ok (.iload_n 1, 1) := by decide +kernel
theorem dX2_deliver_6 : decode cX2_deliver 6 = .ok (.aaload, 1) := by decide +kernel
theorem dX2_deliver_7 : decode cX2_deliver 7 = .ok (.iload_n 2, 1) := by decide +kernel
theorem dX2_deliver_8 : decode cX2_deliver 8 = .ok (.invokevirtual 110, 3) := by decide +kernel
theorem dX2_deliver_11 : decode cX2_deliver 11 = .ok (.aload_n 0, 1) := by decide +kernel
theorem dX2_deliver_12 : decode cX2_deliver 12 = .ok (.getfield 19, 3) := by decide +kernel
theorem dX2_deliver_15 : decode cX2_deliver 15 = .ok (.iload_n 1, 1) := by decide +kernel
theorem dX2_deliver_16 : decode cX2_deliver 16 = .ok (.aaload, 1) := by decide +kernel
theorem dX2_deliver_17 : decode cX2_deliver 17 = .ok (.dup, 1) := by decide +kernel
theorem dX2_deliver_18 : decode cX2_deliver 18 = .ok (.getfield 93, 3) := by decide +kernel
theorem dX2_deliver_21 : decode cX2_deliver 21 = .ok (.iload_n 2, 1) := by decide +kernel
theorem dX2_deliver_22 : decode cX2_deliver 22 = .ok (.iadd, 1) := by decide +kernel
theorem dX2_deliver_23 : decode cX2_deliver 23 = .ok (.putfield 93, 3) := by decide +kernel
theorem dX2_deliver_26 : decode cX2_deliver 26 = .ok (.aload_n 0, 1) := by decide +kernel
theorem dX2_deliver_27 : decode cX2_deliver 27 = .ok (.getfield 11, 3) := by decide +kernel
theorem dX2_deliver_30 : decode cX2_deliver 30 = .ok (.aload_n 0, 1) := by decide +kernel
theorem dX2_deliver_31 : decode cX2_deliver 31 = .ok (.getfield 19, 3) := by decide +kernel
theorem dX2_deliver_34 : decode cX2_deliver 34 = .ok (.iload_n 1, 1) := by decide +kernel
theorem dX2_deliver_35 : decode cX2_deliver 35 = .ok (.aaload, 1) := by decide +kernel
theorem dX2_deliver_36 : decode cX2_deliver 36 = .ok (.getfield 72, 3) := by decide +kernel
theorem dX2_deliver_39 : decode cX2_deliver 39 = .ok (.aaload, 1) := by decide +kernel
theorem dX2_deliver_40 : decode cX2_deliver 40 = .ok (.dup, 1) := by decide +kernel
theorem dX2_deliver_41 : decode cX2_deliver 41 = .ok (.getfield 114, 3) := by decide +kernel
theorem dX2_deliver_44 : decode cX2_deliver 44 = .ok (.iload_n 2, 1) := by decide +kernel
theorem dX2_deliver_45 : decode cX2_deliver 45 = .ok (.isub, 1) := by decide +kernel
theorem dX2_deliver_46 : decode cX2_deliver 46 = .ok (.putfield 114, 3) := by decide +kernel
theorem dX2_deliver_49 : decode cX2_deliver 49 = .ok (.aload_n 0, 1) := by decide +kernel
theorem dX2_deliver_50 : decode cX2_deliver 50 = .ok (.getfield 11, 3) := by decide +kernel
theorem dX2_deliver_53 : decode cX2_deliver 53 = .ok (.aload_n 0, 1) := by decide +kernel
theorem dX2_deliver_54 : decode cX2_deliver 54 = .ok (.getfield 19, 3) := by decide +kernel
theorem dX2_deliver_57 : decode cX2_deliver 57 = .ok (.iload_n 1, 1) := by decide +kernel
theorem dX2_deliver_58 : decode cX2_deliver 58 = .ok (.aaload, 1) := by decide +kernel
theorem dX2_deliver_59 : decode cX2_deliver 59 = .ok (.getfield 75, 3) := by decide +kernel
theorem dX2_deliver_62 : decode cX2_deliver 62 = .ok (.aaload, 1) := by decide +kernel
theorem dX2_deliver_63 : decode cX2_deliver 63 = .ok (.dup, 1) := by decide +kernel
theorem dX2_deliver_64 : decode cX2_deliver 64 = .ok (.getfield 114, 3) := by decide +kernel
theorem dX2_deliver_67 : decode cX2_deliver 67 = .ok (.iload_n 2, 1) := by decide +kernel
theorem dX2_deliver_68 : decode cX2_deliver 68 = .ok (.iadd, 1) := by decide +kernel
theorem dX2_deliver_69 : decode cX2_deliver 69 = .ok (.putfield 114, 3) := by decide +kernel
theorem dX2_deliver_72 : decode cX2_deliver 72 = .ok (.return_, 1) := by decide +kernel
theorem dX2_deliverable_0 : decode cX2_deliverable 0 = .ok (.aload_n 0, 1) := by decide +kernel
theorem dX2_deliverable_1 : decode cX2_deliverable 1 = .ok (.getfield 11, 3) := by decide +kernel
theorem dX2_deliverable_4 : decode cX2_deliverable 4 = .ok (.aload_n 0, 1) := by decide +kernel
theorem dX2_deliverable_5 : decode cX2_deliverable 5 = .ok (.getfield 19, 3) := by decide +kernel
theorem dX2_deliverable_8 : decode cX2_deliverable 8 = .ok (.iload_n 1, 1) := by decide +kernel
theorem dX2_deliverable_9 : decode cX2_deliverable 9 = .ok (.aaload, 1) := by decide +kernel
theorem dX2_deliverable_10 : decode cX2_deliverable 10 = .ok (.getfield 72, 3) := by decide +kernel
theorem dX2_deliverable_13 : decode cX2_deliverable 13 = .ok (.aaload, 1) := by decide +kernel
theorem dX2_deliverable_14 : decode cX2_deliverable 14 = .ok (.getfield 114, 3) := by decide +kernel
theorem dX2_deliverable_17 : decode cX2_deliverable 17 = .ok (.istore_n 2, 1) := by decide +kernel
theorem dX2_deliverable_18 : decode cX2_deliverable 18 = .ok (.iload_n 2, 1) := by decide +kernel
theorem dX2_deliverable_19 : decode cX2_deliverable 19 = .ok (.aload_n 0, 1) := by decide +kernel
theorem dX2_deliverable_20 : decode cX2_deliverable 20 = .ok (.getfield 19, 3) := by decide +kernel
theorem dX2_deliverable_23 : decode cX2_deliverable 23 = .ok (.iload_n 1, 1) := by decide +kernel
theorem dX2_deliverable_24 : decode cX2_deliverable 24 = .ok (.aaload, 1) := by decide +kernel
theorem dX2_deliverable_25 : decode cX2_deliverable 25 = .ok (.getfield 87, 3) := by decide +kernel
theorem dX2_deliverable_28 : decode cX2_deliverable 28 = .ok (.if_icmp .lt 15, 3) := by decide +kernel
theorem dX2_deliverable_31 : decode cX2_deliverable 31 = .ok (.aload_n 0, 1) := by decide +kernel
theorem dX2_deliverable_32 : decode cX2_deliverable 32 = .ok (.getfield 19, 3) := by decide +kernel
theorem dX2_deliverable_35 : decode cX2_deliverable 35 = .ok (.iload_n 1, 1) := by decide +kernel
theorem dX2_deliverable_36 : decode cX2_deliverable 36 = .ok (.aaload, 1) := by decide +kernel
theorem dX2_deliverable_37 : decode cX2_deliverable 37 = .ok (.getfield 87, 3) := by decide +kernel
theorem dX2_deliverable_40 : decode cX2_deliverable 40 = .ok (.goto 8, 3) := by decide +kernel
theorem dX2_deliverable_43 : decode cX2_deliverable 43 = .ok (.aload_n 0, 1) := by decide +kernel
theorem dX2_deliverable_44 : decode cX2_deliverable 44 = .ok (.iload_n 2, 1) := by decide +kernel
theorem dX2_deliverable_45 : decode cX2_deliverable 45 = .ok (.invokevirtual 117, 3) := by decide +kernel
theorem dX2_deliverable_48 : decode cX2_deliverable 48 = .ok (.ireturn, 1) := by decide +kernel
theorem dX2_penaltyOf_0 : decode cX2_penaltyOf 0 = .ok (.aload_n 0, 1) := by decide +kernel
theorem dX2_penaltyOf_1 : decode cX2_penaltyOf 1 = .ok (.getfield 19, 3) := by decide +kernel
theorem dX2_penaltyOf_4 : decode cX2_penaltyOf 4 = .ok (.iload_n 1, 1) := by decide +kernel
theorem dX2_penaltyOf_5 : decode cX2_penaltyOf 5 = .ok (.aaload, 1) := by decide +kernel
theorem dX2_penaltyOf_6 : decode cX2_penaltyOf 6 = .ok (.getfield 87, 3) := by decide +kernel
theorem dX2_penaltyOf_9 : decode cX2_penaltyOf 9 = .ok (.i2l, 1) := by decide +kernel
theorem dX2_penaltyOf_10 : decode cX2_penaltyOf 10 = .ok (.aload_n 0, 1) := by decide +kernel
theorem dX2_penaltyOf_11 : decode cX2_penaltyOf 11 = .ok (.getfield 19, 3) := by decide +kernel
theorem dX2_penaltyOf_14 : decode cX2_penaltyOf 14 = .ok (.iload_n 1, 1) := by decide +kernel
theorem dX2_penaltyOf_15 : decode cX2_penaltyOf 15 = .ok (.aaload, 1) := by decide +kernel
theorem dX2_penaltyOf_16 : decode cX2_penaltyOf 16 = .ok (.getfield 81, 3) := by decide +kernel
theorem dX2_penaltyOf_19 : decode cX2_penaltyOf 19 = .ok (.i2l, 1) := by decide +kernel
theorem dX2_penaltyOf_20 : decode cX2_penaltyOf 20 = .ok (.lmul, 1) := by decide +kernel
theorem dX2_penaltyOf_21 : decode cX2_penaltyOf 21 = .ok (.aload_n 0, 1) := by decide +kernel
theorem dX2_penaltyOf_22 : decode cX2_penaltyOf 22 = .ok (.getfield 48, 3) := by decide +kernel
theorem dX2_penaltyOf_25 : decode cX2_penaltyOf 25 = .ok (.i2l, 1) := by decide +kernel
theorem dX2_penaltyOf_26 : decode cX2_penaltyOf 26 = .ok (.lmul, 1) := by decide +kernel
theorem dX2_penaltyOf_27 : decode cX2_penaltyOf 27 = .ok (.ldc2_w 121, 3) := by decide +kernel
theorem dX2_penaltyOf_30 : decode cX2_penaltyOf 30 = .ok (.ldiv, 1) := by decide +kernel
theorem dX2_penaltyOf_31 : decode cX2_penaltyOf 31 = .ok (.lreturn, 1) := by decide +kernel
theorem dX2_payPenalty_0 : decode cX2_payPenalty 0 = .ok (.aload_n 0, 1) := by decide +kernel
theorem dX2_payPenalty_1 : decode cX2_payPenalty 1 = .ok (.getfield 11, 3) := by decide +kernel
theorem dX2_payPenalty_4 : decode cX2_payPenalty 4 = .ok (.aload_n 0, 1) := by decide +kernel
theorem dX2_payPenalty_5 : decode cX2_payPenalty 5 = .ok (.getfield 19, 3) := by decide +kernel
theorem dX2_payPenalty_8 : decode cX2_payPenalty 8 = .ok (.iload_n 1, 1) := by decide +kernel
theorem dX2_payPenalty_9 : decode cX2_payPenalty 9 = .ok (.aaload, 1) := by decide +kernel
theorem dX2_payPenalty_10 : decode cX2_payPenalty 10 = .ok (.getfield 72, 3) := by decide +kernel
theorem dX2_payPenalty_13 : decode cX2_payPenalty 13 = .ok (.aaload, 1) := by decide +kernel
theorem dX2_payPenalty_14 : decode cX2_payPenalty 14 = .ok (.astore 4, 2) := by decide +kernel
theorem dX2_payPenalty_16 : decode cX2_payPenalty 16 = .ok (.aload_n 0, 1) := by decide +kernel
theorem dX2_payPenalty_17 : decode cX2_payPenalty 17 = .ok (.getfield 11, 3) := by decide +kernel
theorem dX2_payPenalty_20 : decode cX2_payPenalty 20 = .ok (.aload_n 0, 1) := by decide +kernel
theorem dX2_payPenalty_21 : decode cX2_payPenalty 21 = .ok (.getfield 19, 3) := by decide +kernel
theorem dX2_payPenalty_24 : decode cX2_payPenalty 24 = .ok (.iload_n 1, 1) := by decide +kernel
theorem dX2_payPenalty_25 : decode cX2_payPenalty 25 = .ok (.aaload, 1) := by decide +kernel
theorem dX2_payPenalty_26 : decode cX2_payPenalty 26 = .ok (.getfield 75, 3) := by decide +kernel
theorem dX2_payPenalty_29 : decode cX2_payPenalty 29 = .ok (.aaload, 1) := by decide +kernel
theorem dX2_payPenalty_30 : decode cX2_payPenalty 30 = .ok (.astore 5, 2) := by decide +kernel
theorem dX2_payPenalty_32 : decode cX2_payPenalty 32 = .ok (.aload 4, 2) := by decide +kernel
theorem dX2_payPenalty_34 : decode cX2_payPenalty 34 = .ok (.dup, 1) := by decide +kernel
theorem dX2_payPenalty_35 : decode cX2_payPenalty 35 = .ok (.getfield 107, 3) := by decide +kernel
theorem dX2_payPenalty_38 : decode cX2_payPenalty 38 = .ok (.lload_n 2, 1) := by decide +kernel
theorem dX2_payPenalty_39 : decode cX2_payPenalty 39 = .ok (.lsub, 1) := by decide +kernel
theorem dX2_payPenalty_40 : decode cX2_payPenalty 40 = .ok (.putfield 107, 3) := by decide +kernel
theorem dX2_payPenalty_43 : decode cX2_payPenalty 43 = .ok (.aload 4, 2) := by decide +kernel
theorem dX2_payPenalty_45 : decode cX2_payPenalty 45 = .ok (.dup, 1) := by decide +kernel
theorem dX2_payPenalty_46 : decode cX2_payPenalty 46 = .ok (.getfield 123, 3) := by decide +kernel
theorem dX2_payPenalty_49 : decode cX2_payPenalty 49 = .ok (.lload_n 2, 1) := by decide +kernel
theorem dX2_payPenalty_50 : decode cX2_payPenalty 50 = .ok (.ladd, 1) := by decide +kernel
theorem dX2_payPenalty_51 : decode cX2_payPenalty 51 = .ok (.putfield 123, 3) := by decide +kernel
theorem dX2_payPenalty_54 : decode cX2_payPenalty 54 = .ok (.aload 5, 2) := by decide +kernel
theorem dX2_payPenalty_56 : decode cX2_payPenalty 56 = .ok (.dup, 1) := by decide +kernel
theorem dX2_payPenalty_57 : decode cX2_payPenalty 57 = .ok (.getfield 107, 3) := by decide +kernel
theorem dX2_payPenalty_60 : decode cX2_payPenalty 60 = .ok (.lload_n 2, 1) := by decide +kernel
theorem dX2_payPenalty_61 : decode cX2_payPenalty 61 = .ok (.ladd, 1) := by decide +kernel
theorem dX2_payPenalty_62 : decode cX2_payPenalty 62 = .ok (.putfield 107, 3) := by decide +kernel
theorem dX2_payPenalty_65 : decode cX2_payPenalty 65 = .ok (.aload 5, 2) := by decide +kernel
theorem dX2_payPenalty_67 : decode cX2_payPenalty 67 = .ok (.dup, 1) := by decide +kernel
theorem dX2_payPenalty_68 : decode cX2_payPenalty 68 = .ok (.getfield 126, 3) := by decide +kernel
theorem dX2_payPenalty_71 : decode cX2_payPenalty 71 = .ok (.lload_n 2, 1) := by decide +kernel
theorem dX2_payPenalty_72 : decode cX2_payPenalty 72 = .ok (.ladd, 1) := by decide +kernel
theorem dX2_payPenalty_73 : decode cX2_payPenalty 73 = .ok (.putfield 126, 3) := by decide +kernel
theorem dX2_payPenalty_76 : decode cX2_payPenalty 76 = .ok (.return_, 1) := by decide +kernel
theorem dX2_buyOutside_0 : decode cX2_buyOutside 0 = .ok (.aload_n 0, 1) := by decide +kernel
theorem dX2_buyOutside_1 : decode cX2_buyOutside 1 = .ok (.getfield 11, 3) := by decide +kernel
theorem dX2_buyOutside_4 : decode cX2_buyOutside 4 = .ok (.aload_n 0, 1) := by decide +kernel
theorem dX2_buyOutside_5 : decode cX2_buyOutside 5 = .ok (.getfield 19, 3) := by decide +kernel
theorem dX2_buyOutside_8 : decode cX2_buyOutside 8 = .ok (.iload_n 1, 1) := by decide +kernel
theorem dX2_buyOutside_9 : decode cX2_buyOutside 9 = .ok (.aaload, 1) := by decide +kernel
theorem dX2_buyOutside_10 : decode cX2_buyOutside 10 = .ok (.getfield 75, 3) := by decide +kernel
theorem dX2_buyOutside_13 : decode cX2_buyOutside 13 = .ok (.aaload, 1) := by decide +kernel
theorem dX2_buyOutside_14 : decode cX2_buyOutside 14 = .ok (.astore_n 3, 1) := by decide +kernel
theorem dX2_buyOutside_15 : decode cX2_buyOutside 15 = .ok (.iload_n 2, 1) := by decide +kernel
theorem dX2_buyOutside_16 : decode cX2_buyOutside 16 = .ok (.i2l, 1) := by decide +kernel
theorem dX2_buyOutside_17 : decode cX2_buyOutside 17 = .ok (.aload_n 0, 1) := by decide +kernel
theorem dX2_buyOutside_18 : decode cX2_buyOutside 18 = .ok (.getfield 45, 3) := by decide +kernel
theorem dX2_buyOutside_21 : decode cX2_buyOutside 21 = .ok (.i2l, 1) := by decide +kernel
theorem dX2_buyOutside_22 : decode cX2_buyOutside 22 = .ok (.lmul, 1) := by decide +kernel
theorem dX2_buyOutside_23 : decode cX2_buyOutside 23 = .ok (.lstore 4, 2) := by decide +kernel
theorem dX2_buyOutside_25 : decode cX2_buyOutside 25 = .ok (.aload_n 3, 1) := by decide +kernel
theorem dX2_buyOutside_26 : decode cX2_buyOutside 26 = .ok (.dup, 1) := by decide +kernel
theorem dX2_buyOutside_27 : decode cX2_buyOutside 27 = .ok (.getfield 114, 3) := by decide +kernel
theorem dX2_buyOutside_30 : decode cX2_buyOutside 30 = .ok (.iload_n 2, 1) := by decide +kernel
theorem dX2_buyOutside_31 : decode cX2_buyOutside 31 = .ok (.iadd, 1) := by decide +kernel
theorem dX2_buyOutside_32 : decode cX2_buyOutside 32 = .ok (.putfield 114, 3) := by decide +kernel
theorem dX2_buyOutside_35 : decode cX2_buyOutside 35 = .ok (.aload_n 3, 1) := by decide +kernel
theorem dX2_buyOutside_36 : decode cX2_buyOutside 36 = .ok (.dup, 1) := by decide +kernel
theorem dX2_buyOutside_37 : decode cX2_buyOutside 37 = .ok (.getfield 129, 3) := by decide +kernel
theorem dX2_buyOutside_40 : decode cX2_buyOutside 40 = .ok (.iload_n 2, 1) := by decide +kernel
theorem dX2_buyOutside_41 : decode cX2_buyOutside 41 = .ok (.iadd, 1) := by decide +kernel
theorem dX2_buyOutside_42 : decode cX2_buyOutside 42 = .ok (.putfield 129, 3) := by decide +kernel
theorem dX2_buyOutside_45 : decode cX2_buyOutside 45 = .ok (.aload_n 3, 1) := by decide +kernel
theorem dX2_buyOutside_46 : decode cX2_buyOutside 46 = .ok (.dup, 1) := by decide +kernel
theorem dX2_buyOutside_47 : decode cX2_buyOutside 47 = .ok (.getfield 107, 3) := by decide +kernel
theorem dX2_buyOutside_50 : decode cX2_buyOutside 50 = .ok (.lload 4, 2) := by decide +kernel
theorem dX2_buyOutside_52 : decode cX2_buyOutside 52 = .ok (.lsub, 1) := by decide +kernel
theorem dX2_buyOutside_53 : decode cX2_buyOutside 53 = .ok (.putfield 107, 3) := by decide +kernel
theorem dX2_buyOutside_56 : decode cX2_buyOutside 56 = .ok (.aload_n 0, 1) := by decide +kernel
theorem dX2_buyOutside_57 : decode cX2_buyOutside 57 = .ok (.dup, 1) := by decide +kernel
theorem dX2_buyOutside_58 : decode cX2_buyOutside 58 = .ok (.getfield 57, 3) := by decide +kernel
theorem dX2_buyOutside_61 : decode cX2_buyOutside 61 = .ok (.lload 4, 2) := by decide +kernel
theorem dX2_buyOutside_63 : decode cX2_buyOutside 63 = .ok (.ladd, 1) := by decide +kernel
theorem dX2_buyOutside_64 : decode cX2_buyOutside 64 = .ok (.putfield 57, 3) := by decide +kernel
theorem dX2_buyOutside_67 : decode cX2_buyOutside 67 = .ok (.return_, 1) := by decide +kernel
theorem dX2_close_0 : decode cX2_close 0 = .ok (.aload_n 0, 1) := by decide +kernel
theorem dX2_close_1 : decode cX2_close 1 = .ok (.getfield 11, 3) := by decide +kernel
theorem dX2_close_4 : decode cX2_close 4 = .ok (.aload_n 0, 1) := by decide +kernel
theorem dX2_close_5 : decode cX2_close 5 = .ok (.getfield 19, 3) := by decide +kernel
theorem dX2_close_8 : decode cX2_close 8 = .ok (.iload_n 1, 1) := by decide +kernel
theorem dX2_close_9 : decode cX2_close 9 = .ok (.aaload, 1) := by decide +kernel
theorem dX2_close_10 : decode cX2_close 10 = .ok (.getfield 72, 3) := by decide +kernel
theorem dX2_close_13 : decode cX2_close 13 = .ok (.aaload, 1) := by decide +kernel
theorem dX2_close_14 : decode cX2_close 14 = .ok (.astore_n 3, 1) := by decide +kernel
theorem dX2_close_15 : decode cX2_close 15 = .ok (.iload_n 2, 1) := by decide +kernel
theorem dX2_close_16 : decode cX2_close 16 = .ok (.i2l, 1) := by decide +kernel
theorem dX2_close_17 : decode cX2_close 17 = .ok (.iconst 0, 1) := by decide +kernel
theorem dX2_close_18 : decode cX2_close 18 = .ok (.aload_n 0, 1) := by decide +kernel
theorem dX2_close_19 : decode cX2_close 19 = .ok (.getfield 45, 3) := by decide +kernel
theorem dX2_close_22 : decode cX2_close 22 = .ok (.aload_n 0, 1) := by decide +kernel
theorem dX2_close_23 : decode cX2_close 23 = .ok (.getfield 19, 3) := by decide +kernel
theorem dX2_close_26 : decode cX2_close 26 = .ok (.iload_n 1, 1) := by decide +kernel
theorem dX2_close_27 : decode cX2_close 27 = .ok (.aaload, 1) := by decide +kernel
theorem dX2_close_28 : decode cX2_close 28 = .ok (.getfield 81, 3) := by decide +kernel
theorem dX2_close_31 : decode cX2_close 31 = .ok (.isub, 1) := by decide +kernel
theorem dX2_close_32 : decode cX2_close 32 = .ok (.invokestatic 132, 3) := by decide +kernel
theorem dX2_close_35 : decode cX2_close 35 = .ok (.i2l, 1) := by decide +kernel
theorem dX2_close_36 : decode cX2_close 36 = .ok (.lmul, 1) := by decide +kernel
theorem dX2_close_37 : decode cX2_close 37 = .ok (.lstore 4, 2) := by decide +kernel
theorem dX2_close_39 : decode cX2_close 39 = .ok (.aload_n 3, 1) := by decide +kernel
theorem dX2_close_40 : decode cX2_close 40 = .ok (.dup, 1) := by decide +kernel
theorem dX2_close_41 : decode cX2_close 41 = .ok (.getfield 107, 3) := by decide +kernel
theorem dX2_close_44 : decode cX2_close 44 = .ok (.lload 4, 2) := by decide +kernel
theorem dX2_close_46 : decode cX2_close 46 = .ok (.lsub, 1) := by decide +kernel
theorem dX2_close_47 : decode cX2_close 47 = .ok (.putfield 107, 3) := by decide +kernel
theorem dX2_close_50 : decode cX2_close 50 = .ok (.aload_n 3, 1) := by decide +kernel
theorem dX2_close_51 : decode cX2_close 51 = .ok (.dup, 1) := by decide +kernel
theorem dX2_close_52 : decode cX2_close 52 = .ok (.getfield 137, 3) := by decide +kernel
theorem dX2_close_55 : decode cX2_close 55 = .ok (.lload 4, 2) := by decide +kernel
theorem dX2_close_57 : decode cX2_close 57 = .ok (.ladd, 1) := by decide +kernel
theorem dX2_close_58 : decode cX2_close 58 = .ok (.putfield 137, 3) := by decide +kernel
theorem dX2_close_61 : decode cX2_close 61 = .ok (.aload_n 0, 1) := by decide +kernel
theorem dX2_close_62 : decode cX2_close 62 = .ok (.getfield 11, 3) := by decide +kernel
theorem dX2_close_65 : decode cX2_close 65 = .ok (.aload_n 0, 1) := by decide +kernel
theorem dX2_close_66 : decode cX2_close 66 = .ok (.getfield 19, 3) := by decide +kernel
theorem dX2_close_69 : decode cX2_close 69 = .ok (.iload_n 1, 1) := by decide +kernel
theorem dX2_close_70 : decode cX2_close 70 = .ok (.aaload, 1) := by decide +kernel
theorem dX2_close_71 : decode cX2_close 71 = .ok (.getfield 75, 3) := by decide +kernel
theorem dX2_close_74 : decode cX2_close 74 = .ok (.aaload, 1) := by decide +kernel
theorem dX2_close_75 : decode cX2_close 75 = .ok (.dup, 1) := by decide +kernel
theorem dX2_close_76 : decode cX2_close 76 = .ok (.getfield 107, 3) := by decide +kernel
theorem dX2_close_79 : decode cX2_close 79 = .ok (.lload 4, 2) := by decide +kernel
theorem dX2_close_81 : decode cX2_close 81 = .ok (.ladd, 1) := by decide +kernel
theorem dX2_close_82 : decode cX2_close 82 = .ok (.putfield 107, 3) := by decide +kernel
theorem dX2_close_85 : decode cX2_close 85 = .ok (.aload_n 0, 1) := by decide +kernel
theorem dX2_close_86 : decode cX2_close 86 = .ok (.getfield 19, 3) := by decide +kernel
theorem dX2_close_89 : decode cX2_close 89 = .ok (.iload_n 1, 1) := by decide +kernel
theorem dX2_close_90 : decode cX2_close 90 = .ok (.aaload, 1) := by decide +kernel
theorem dX2_close_91 : decode cX2_close 91 = .ok (.dup, 1) := by decide +kernel
theorem dX2_close_92 : decode cX2_close 92 = .ok (.getfield 87, 3) := by decide +kernel
theorem dX2_close_95 : decode cX2_close 95 = .ok (.iload_n 2, 1) := by decide +kernel
theorem dX2_close_96 : decode cX2_close 96 = .ok (.isub, 1) := by decide +kernel
theorem dX2_close_97 : decode cX2_close 97 = .ok (.putfield 87, 3) := by decide +kernel
theorem dX2_close_100 : decode cX2_close 100 = .ok (.aload_n 0, 1) := by decide +kernel
theorem dX2_close_101 : decode cX2_close 101 = .ok (.getfield 19, 3) := by decide +kernel
theorem dX2_close_104 : decode cX2_close 104 = .ok (.iload_n 1, 1) := by decide +kernel
theorem dX2_close_105 : decode cX2_close 105 = .ok (.aaload, 1) := by decide +kernel
theorem dX2_close_106 : decode cX2_close 106 = .ok (.dup, 1) := by decide +kernel
theorem dX2_close_107 : decode cX2_close 107 = .ok (.getfield 96, 3) := by decide +kernel
theorem dX2_close_110 : decode cX2_close 110 = .ok (.iload_n 2, 1) := by decide +kernel
theorem dX2_close_111 : decode cX2_close 111 = .ok (.iadd, 1) := by decide +kernel
theorem dX2_close_112 : decode cX2_close 112 = .ok (.putfield 96, 3) := by decide +kernel
theorem dX2_close_115 : decode cX2_close 115 = .ok (.return_, 1) := by decide +kernel
theorem dX3_init_0 : decode cX3_init 0 = .ok (.aload_n 0, 1) := by decide +kernel
theorem dX3_init_1 : decode cX3_init 1 = .ok (.invokespecial 3, 3) := by decide +kernel
theorem dX3_init_4 : decode cX3_init 4 = .ok (.aload_n 0, 1) := by decide +kernel
theorem dX3_init_5 : decode cX3_init 5 = .ok (.bipush 24, 2) := by decide +kernel
theorem dX3_init_7 : decode cX3_init 7 = .ok (.newarray .int, 2) := by decide +kernel
theorem dX3_init_9 : decode cX3_init 9 = .ok (.putfield 9, 3) := by decide +kernel
theorem dX3_init_12 : decode cX3_init 12 = .ok (.aload_n 0, 1) := by decide +kernel
theorem dX3_init_13 : decode cX3_init 13 = .ok (.bipush 24, 2) := by decide +kernel
theorem dX3_init_15 : decode cX3_init 15 = .ok (.newarray .int, 2) := by decide +kernel
theorem dX3_init_17 : decode cX3_init 17 = .ok (.putfield 15, 3) := by decide +kernel
theorem dX3_init_20 : decode cX3_init 20 = .ok (.aload_n 0, 1) := by decide +kernel
theorem dX3_init_21 : decode cX3_init 21 = .ok (.bipush 8, 2) := by decide +kernel
theorem dX3_init_23 : decode cX3_init 23 = .ok (.newarray .long, 2) := by decide +kernel
theorem dX3_init_25 : decode cX3_init 25 = .ok (.putfield 18, 3) := by decide +kernel
theorem dX3_init_28 : decode cX3_init 28 = .ok (.aload_n 0, 1) := by decide +kernel
theorem dX3_init_29 : decode cX3_init 29 = .ok (.bipush 8, 2) := by decide +kernel
theorem dX3_init_31 : decode cX3_init 31 = .ok (.newarray .long, 2) := by decide +kernel
theorem dX3_init_33 : decode cX3_init 33 = .ok (.putfield 22, 3) := by decide +kernel
theorem dX3_init_36 : decode cX3_init 36 = .ok (.aload_n 0, 1) := by decide +kernel
theorem dX3_init_37 : decode cX3_init 37 = .ok (.bipush 8, 2) := by decide +kernel
theorem dX3_init_39 : decode cX3_init 39 = .ok (.newarray .int, 2) := by decide +kernel
theorem dX3_init_41 : decode cX3_init 41 = .ok (.putfield 25, 3) := by decide +kernel
theorem dX3_init_44 : decode cX3_init 44 = .ok (.return_, 1) := by decide +kernel
theorem dX3_sum_0 : decode cX3_sum 0 = .ok (.aload_n 0, 1) := by decide +kernel
theorem dX3_sum_1 : decode cX3_sum 1 = .ok (.aload_n 1, 1) := by decide +kernel
theorem dX3_sum_2 : decode cX3_sum 2 = .ok (.invokevirtual 28, 3) := by decide +kernel
theorem dX3_sum_5 : decode cX3_sum 5 = .ok (.iconst 0, 1) := by decide +kernel
theorem dX3_sum_6 : decode cX3_sum 6 = .ok (.istore_n 3, 1) := by decide +kernel
theorem dX3_sum_7 : decode cX3_sum 7 = .ok (.iload_n 3, 1) := by decide +kernel
theorem dX3_sum_8 : decode cX3_sum 8 = .ok (.sipush 24001, 3) := by decide +kernel
theorem dX3_sum_11 : decode cX3_sum 11 = .ok (.if_icmp .ge 49, 3) := by decide +kernel
theorem dX3_sum_14 : decode cX3_sum 14 = .ok (.aload_n 0, 1) := by decide +kernel
theorem dX3_sum_15 : decode cX3_sum 15 = .ok (.aload_n 1, 1) := by decide +kernel
theorem dX3_sum_16 : decode cX3_sum 16 = .ok (.invokevirtual 32, 3) := by decide +kernel
theorem dX3_sum_19 : decode cX3_sum 19 = .ok (.ifCond .eq 41, 3) := by decide +kernel
theorem dX3_sum_22 : decode cX3_sum 22 = .ok (.aload_n 0, 1) := by decide +kernel
theorem dX3_sum_23 : decode cX3_sum 23 = .ok (.aload_n 1, 1) := by decide +kernel
theorem dX3_sum_24 : decode cX3_sum 24 = .ok (.iload_n 2, 1) := by decide +kernel
theorem dX3_sum_25 : decode cX3_sum 25 = .ok (.invokevirtual 36, 3) := by decide +kernel
theorem dX3_sum_28 : decode cX3_sum 28 = .ok (.aload_n 0, 1) := by decide +kernel
theorem dX3_sum_29 : decode cX3_sum 29 = .ok (.aload_n 1, 1) := by decide +kernel
theorem dX3_sum_30 : decode cX3_sum 30 = .ok (.invokevirtual 40, 3) := by decide +kernel
theorem dX3_sum_33 : decode cX3_sum 33 = .ok (.istore 4, 2) := by decide +kernel
theorem dX3_sum_35 : decode cX3_sum 35 = .ok (.iload 4, 2) := by decide +kernel
theorem dX3_sum_37 : decode cX3_sum 37 = .ok (.iconst (-1), 1) := by decide +kernel
theorem dX3_sum_38 : decode cX3_sum 38 = .ok (.if_icmp .eq 22, 3) := by decide +kernel
theorem dX3_sum_41 : decode cX3_sum 41 = .ok (.aload_n 0, 1) := by decide +kernel
theorem dX3_sum_42 : decode cX3_sum 42 = .ok (.aload_n 1, 1) := by decide +kernel
theorem dX3_sum_43 : decode cX3_sum 43 = .ok (.iload 4, 2) := by decide +kernel
theorem dX3_sum_45 : decode cX3_sum 45 = .ok (.invokevirtual 44, 3) := by decide +kernel
theorem dX3_sum_48 : decode cX3_sum 48 = .ok (.ifCond .ne 6, 3) := by decide +kernel
theorem dX3_sum_51 : decode cX3_sum 51 = .ok (.goto 9, 3) := by decide +kernel
theorem dX3_sum_54 : decode cX3_sum 54 = .ok (.iinc 3 1, 3) := by decide +kernel
theorem dX3_sum_57 : decode cX3_sum 57 = .ok (.goto (-50), 3) := by decide +kernel
theorem dX3_sum_60 : decode cX3_sum 60 = .ok (.lconst 0, 1) := by decide +kernel
theorem dX3_sum_61 : decode cX3_sum 61 = .ok (.lstore_n 3, 1) := by decide +kernel
theorem dX3_sum_62 : decode cX3_sum 62 = .ok (.iconst 0, 1) := by decide +kernel
theorem dX3_sum_63 : decode cX3_sum 63 = .ok (.istore 5, 2) := by decide +kernel
theorem dX3_sum_65 : decode cX3_sum 65 = .ok (.iload 5, 2) := by decide +kernel
theorem dX3_sum_67 : decode cX3_sum 67 = .ok (.aload_n 1, 1) := by decide +kernel
theorem dX3_sum_68 : decode cX3_sum 68 = .ok (.getfield 48, 3) := by decide +kernel
theorem dX3_sum_71 : decode cX3_sum 71 = .ok (.if_icmp .ge 32, 3) := by decide +kernel
theorem dX3_sum_74 : decode cX3_sum 74 = .ok (.lload_n 3, 1) := by decide +kernel
theorem dX3_sum_75 : decode cX3_sum 75 = .ok (.aload_n 0, 1) := by decide +kernel
theorem dX3_sum_76 : decode cX3_sum 76 = .ok (.getfield 9, 3) := by decide +kernel
theorem dX3_sum_79 : decode cX3_sum 79 = .ok (.iload 5, 2) := by decide +kernel
theorem dX3_sum_81 : decode cX3_sum 81 = .ok (.iaload, 1) := by decide +kernel
theorem dX3_sum_82 : decode cX3_sum 82 = .ok (.i2l, 1) := by decide +kernel
theorem dX3_sum_83 : decode cX3_sum 83 = .ok (.aload_n 1, 1) := by decide +kernel
theorem dX3_sum_84 : decode cX3_sum 84 = .ok (.getfield 54, 3) := by decide +kernel
theorem dX3_sum_87 : decode cX3_sum 87 = .ok (.iload 5, 2) := by decide +kernel
theorem dX3_sum_89 : decode cX3_sum 89 = .ok (.aaload, 1) := by decide +kernel
theorem dX3_sum_90 : decode cX3_sum 90 = .ok (.iload_n 2, 1) := by decide +kernel
theorem dX3_sum_91 : decode cX3_sum 91 = .ok (.invokestatic 58, 3) := by decide +kernel
theorem dX3_sum_94 : decode cX3_sum 94 = .ok (.lmul, 1) := by decide +kernel
theorem dX3_sum_95 : decode cX3_sum 95 = .ok (.ladd, 1) := by decide +kernel
theorem dX3_sum_96 : decode cX3_sum 96 = .ok (.lstore_n 3, 1) := by decide +kernel
theorem dX3_sum_97 : decode cX3_sum 97 = .ok (.iinc 5 1, 3) := by decide +kernel
theorem dX3_sum_100 : decode cX3_sum 100 = .ok (.goto (-35), 3) := by decide +kernel
theorem dX3_sum_103 : decode cX3_sum 103 = .ok (.lload_n 3, 1) := by decide +kernel
theorem dX3_sum_104 : decode cX3_sum 104 = .ok (.lreturn, 1) := by decide +kernel
theorem dX3_gain_0 : decode cX3_gain 0 = .ok (.iload_n 1, 1) := by decide +kernel
theorem dX3_gain_1 : decode cX3_gain 1 = .ok (.ifCond .eq 11, 3) := by decide +kernel
theorem dX3_gain_4 : decode cX3_gain 4 = .ok (.aload_n 0, 1) := by decide +kernel
theorem dX3_gain_5 : decode cX3_gain 5 = .ok (.getfield 62, 3) := by decide +kernel
theorem dX3_gain_8 : decode cX3_gain 8 = .ok (.i2l, 1) := by decide +kernel
theorem dX3_gain_9 : decode cX3_gain 9 = .ok (.goto 4, 3) := by decide +kernel
theorem dX3_gain_12 : decode cX3_gain 12 = .ok (.lconst 1, 1) := by decide +kernel
theorem dX3_gain_13 : decode cX3_gain 13 = .ok (.lreturn, 1) := by decide +kernel
theorem dX3_settleAll_0 : decode cX3_settleAll 0 = .ok (.iconst 0, 1) := by decide +kernel
theorem dX3_settleAll_1 : decode cX3_settleAll 1 = .ok (.istore_n 2, 1) := by decide +kernel
theorem dX3_settleAll_2 : decode cX3_settleAll 2 = .ok (.iload_n 2, 1) := by decide +kernel
theorem dX3_settleAll_3 : decode cX3_settleAll 3 = .ok (.aload_n 1, 1) := by decide +kernel
theorem dX3_settleAll_4 : decode cX3_settleAll 4 = .ok (.getfield 67, 3) := by decide +kernel
theorem dX3_settleAll_7 : decode cX3_settleAll 7 = .ok (.if_icmp .ge 25, 3) := by decide +kernel
theorem dX3_settleAll_10 : decode cX3_settleAll 10 = .ok (.aload_n 0, 1) := by decide +kernel
theorem dX3_settleAll_11 : decode cX3_settleAll 11 = .ok (.getfield 18, 3) := by decide +kernel
theorem dX3_settleAll_14 : decode cX3_settleAll 14 = .ok (.iload_n 2, 1) := by decide +kernel
theorem dX3_settleAll_15 : decode cX3_settleAll 15 = .ok (.aload_n 1, 1) := by decide +kernel
theorem dX3_settleAll_16 : decode cX3_settleAll 16 = .ok (.getfield 70, 3) := by decide +kernel
theorem dX3_settleAll_19 : decode cX3_settleAll 19 = .ok (.iload_n 2, 1) := by decide +kernel
theorem dX3_settleAll_20 : decode cX3_settleAll 20 = .ok (.aaload, 1) := by decide +kernel
theorem dX3_settleAll_21 : decode cX3_settleAll 21 = .ok (.getfield 74, 3) := by decide +kernel
theorem dX3_settleAll_24 : decode cX3_settleAll 24 = .ok (.i2l, 1) := by decide +kernel
theorem dX3_settleAll_25 : decode cX3_settleAll 25 = .ok (.lastore, 1) := by decide +kernel
theorem dX3_settleAll_26 : decode cX3_settleAll 26 = .ok (.iinc 2 1, 3) := by decide +kernel
theorem dX3_settleAll_29 : decode cX3_settleAll 29 = .ok (.goto (-27), 3) := by decide +kernel
theorem dX3_settleAll_32 : decode cX3_settleAll 32 = .ok (.iconst 0, 1) := by decide +kernel
theorem dX3_settleAll_33 : decode cX3_settleAll 33 = .ok (.istore_n 2, 1) := by decide +kernel
theorem dX3_settleAll_34 : decode cX3_settleAll 34 = .ok (.iload_n 2, 1) := by decide +kernel
theorem dX3_settleAll_35 : decode cX3_settleAll 35 = .ok (.aload_n 1, 1) := by decide +kernel
theorem dX3_settleAll_36 : decode cX3_settleAll 36 = .ok (.getfield 48, 3) := by decide +kernel
theorem dX3_settleAll_39 : decode cX3_settleAll 39 = .ok (.if_icmp .ge 96, 3) := by decide +kernel
theorem dX3_settleAll_42 : decode cX3_settleAll 42 = .ok (.aload_n 0, 1) := by decide +kernel
theorem dX3_settleAll_43 : decode cX3_settleAll 43 = .ok (.getfield 15, 3) := by decide +kernel
theorem dX3_settleAll_46 : decode cX3_settleAll 46 = .ok (.iload_n 2, 1) := by decide +kernel
theorem dX3_settleAll_47 : decode cX3_settleAll 47 = .ok (.aload_n 1, 1) := by decide +kernel
theorem dX3_settleAll_48 : decode cX3_settleAll 48 = .ok (.iload_n 2, 1) := by decide +kernel
theorem dX3_settleAll_49 : decode cX3_settleAll 49 = .ok (.invokevirtual 79, 3) := by decide +kernel
theorem dX3_settleAll_52 : decode cX3_settleAll 52 = .ok (.ifCond .eq 15, 3) := by decide +kernel
theorem dX3_settleAll_55 : decode cX3_settleAll 55 = .ok (.aload_n 1, 1) := by decide +kernel
theorem dX3_settleAll_56 : decode cX3_settleAll 56 = .ok (.getfield 54, 3) := by decide +kernel
theorem dX3_settleAll_59 : decode cX3_settleAll 59 = .ok (.iload_n 2, 1) := by decide +kernel
theorem dX3_settleAll_60 : decode cX3_settleAll 60 = .ok (.aaload, 1) := by decide +kernel
theorem dX3_settleAll_61 : decode cX3_settleAll 61 = .ok (.getfield 83, 3) := by decide +kernel
theorem dX3_settleAll_64 : decode cX3_settleAll 64 = .ok (.goto 4, 3) := by decide +kernel
theorem dX3_settleAll_67 : decode cX3_settleAll 67 = .ok (.iconst 0, 1) := by decide +kernel
theorem dX3_settleAll_68 : decode cX3_settleAll 68 = .ok (.iastore, 1) := by decide +kernel
theorem dX3_settleAll_69 : decode cX3_settleAll 69 = .ok (.aload_n 0, 1) := by decide +kernel
theorem dX3_settleAll_70 : decode cX3_settleAll 70 = .ok (.getfield 9, 3) := by decide +kernel
theorem dX3_settleAll_73 : decode cX3_settleAll 73 = .ok (.iload_n 2, 1) := by decide +kernel
theorem dX3_settleAll_74 : decode cX3_settleAll 74 = .ok (.aload_n 0, 1) := by decide +kernel
theorem dX3_settleAll_75 : decode cX3_settleAll 75 = .ok (.getfield 15, 3) := by decide +kernel
theorem dX3_settleAll_78 : decode cX3_settleAll 78 = .ok (.iload_n 2, 1) := by decide +kernel
theorem dX3_settleAll_79 : decode cX3_settleAll 79 = .ok (.iaload, 1) := by decide +kernel
theorem dX3_settleAll_80 : decode cX3_settleAll 80 = .ok (.iastore, 1) := by decide +kernel
theorem dX3_settleAll_81 : decode cX3_settleAll 81 = .ok (.aload_n 0, 1) := by decide +kernel
theorem dX3_settleAll_82 : decode cX3_settleAll 82 = .ok (.getfield 18, 3) := by decide +kernel
theorem dX3_settleAll_85 : decode cX3_settleAll 85 = .ok (.aload_n 1, 1) := by decide +kernel
theorem dX3_settleAll_86 : decode cX3_settleAll 86 = .ok (.getfield 54, 3) := by decide +kernel
theorem dX3_settleAll_89 : decode cX3_settleAll 89 = .ok (.iload_n 2, 1) := by decide +kernel
theorem dX3_settleAll_90 : decode cX3_settleAll 90 = .ok (.aaload, 1) := by decide +kernel
theorem dX3_settleAll_91 : decode cX3_settleAll 91 = .ok (.getfield 86, 3) := by decide +kernel
theorem dX3_settleAll_94 : decode cX3_settleAll 94 = .ok (.dup2, 1) := by decide +kernel
theorem dX3_settleAll_95 : decode cX3_settleAll 95 = .ok (.laload, 1) := by decide +kernel
theorem dX3_settleAll_96 : decode cX3_settleAll 96 = .ok (.aload_n 0, 1) := by decide +kernel
theorem dX3_settleAll_97 : decode cX3_settleAll 97 = .ok (.getfield 15, 3) := by decide +kernel
theorem dX3_settleAll_100 : decode cX3_settleAll 100 = .ok (.iload_n 2, 1) := by decide +kernel
theorem dX3_settleAll_101 : decode cX3_settleAll 101 = .ok (.iaload, 1) := by decide +kernel
theorem dX3_settleAll_102 : decode cX3_settleAll 102 = .ok (.i2l, 1) := by decide +kernel
theorem dX3_settleAll_103 : decode cX3_settleAll 103 = .ok (.lsub, 1) := by decide +kernel
theorem dX3_settleAll_104 : decode cX3_settleAll 104 = .ok (.lastore, 1) := by decide +kernel
theorem dX3_settleAll_105 : decode cX3_settleAll 105 = .ok (.aload_n 0, 1) := by decide +kernel
theorem dX3_settleAll_106 : decode cX3_settleAll 106 = .ok (.getfield 18, 3) := by decide +kernel
theorem dX3_settleAll_109 : decode cX3_settleAll 109 = .ok (.aload_n 1, 1) := by decide +kernel
theorem dX3_settleAll_110 : decode cX3_settleAll 110 = .ok (.getfield 54, 3) := by decide +kernel
theorem dX3_settleAll_113 : decode cX3_settleAll 113 = .ok (.iload_n 2, 1) := by decide +kernel
theorem dX3_settleAll_114 : decode cX3_settleAll 114 = .ok (.aaload, 1) := by decide +kernel
theorem dX3_settleAll_115 : decode cX3_settleAll 115 = .ok (.getfield 89, 3) := by decide +kernel
theorem dX3_settleAll_118 : decode cX3_settleAll 118 = .ok (.dup2, 1) := by decide +kernel
theorem dX3_settleAll_119 : decode cX3_settleAll 119 = .ok (.laload, 1) := by decide +kernel
theorem dX3_settleAll_120 : decode cX3_settleAll 120 = .ok (.aload_n 0, 1) := by decide +kernel
theorem dX3_settleAll_121 : decode cX3_settleAll 121 = .ok (.getfield 15, 3) := by decide +kernel
theorem dX3_settleAll_124 : decode cX3_settleAll 124 = .ok (.iload_n 2, 1) := by decide +kernel
theorem dX3_settleAll_125 : decode cX3_settleAll 125 = .ok (.iaload, 1) := by decide +kernel
theorem dX3_settleAll_126 : decode cX3_settleAll 126 = .ok (.i2l, 1) := by decide +kernel
theorem dX3_settleAll_127 : decode cX3_settleAll 127 = .ok (.ladd, 1) := by decide +kernel
theorem dX3_settleAll_128 : decode cX3_settleAll 128 = .ok (.lastore, 1) := by decide +kernel
theorem dX3_settleAll_129 : decode cX3_settleAll 129 = .ok (.iinc 2 1, 3) := by decide +kernel
theorem dX3_settleAll_132 : decode cX3_settleAll 132 = .ok (.goto (-98), 3) := by decide +kernel
theorem dX3_settleAll_135 : decode cX3_settleAll 135 = .ok (.return_, 1) := by decide +kernel
theorem dX3_isShort_0 : decode cX3_isShort 0 = .ok (.iconst 0, 1) := by decide +kernel
theorem dX3_isShort_1 : decode cX3_isShort 1 = .ok (.istore_n 2, 1) := by decide +kernel
theorem dX3_isShort_2 : decode cX3_isShort 2 = .ok (.iload_n 2, 1) := by decide +kernel
theorem dX3_isShort_3 : decode cX3_isShort 3 = .ok (.aload_n 1, 1) := by decide +kernel
theorem dX3_isShort_4 : decode cX3_isShort 4 = .ok (.getfield 67, 3) := by decide +kernel
theorem dX3_isShort_7 : decode cX3_isShort 7 = .ok (.if_icmp .ge 22, 3) := by decide +kernel
theorem dX3_isShort_10 : decode cX3_isShort 10 = .ok (.aload_n 0, 1) := by decide +kernel
theorem dX3_isShort_11 : decode cX3_isShort 11 = .ok (.getfield 18, 3) := by decide +kernel
theorem dX3_isShort_14 : decode cX3_isShort 14 = .ok (.iload_n 2, 1) := by decide +kernel
theorem dX3_isShort_15 : decode cX3_isShort 15 = .ok (.laload, 1) := by decide +kernel
theorem dX3_isShort_16 : decode cX3_isShort 16 = .ok (.lconst 0, 1) := by decide +kernel
theorem dX3_isShort_17 : decode cX3_isShort 17 = .ok (.lcmp, 1) := by decide +kernel
theorem dX3_isShort_18 : decode cX3_isShort 18 = .ok (.ifCond .ge 5, 3) := by decide +kernel
theorem dX3_isShort_21 : decode cX3_isShort 21 = .ok (.iconst 1, 1) := by decide +kernel
theorem dX3_isShort_22 : decode cX3_isShort 22 = .ok (.ireturn, 1) := by decide +kernel
theorem dX3_isShort_23 : decode cX3_isShort 23 = .ok (.iinc 2 1, 3) := by decide +kernel
theorem dX3_isShort_26 : decode cX3_isShort 26 = .ok (.goto (-24), 3) := by decide +kernel
theorem dX3_isShort_29 : decode cX3_isShort 29 = .ok (.iconst 0, 1) := by decide +kernel
theorem dX3_isShort_30 : decode cX3_isShort 30 = .ok (.ireturn, 1) := by decide +kernel
theorem dX3_weighLosses_0 : decode cX3_weighLosses 0 = .ok (.iconst 0, 1) := by decide +kernel
theorem dX3_weighLosses_1 : decode cX3_weighLosses 1 = .ok (.istore_n 3, 1) := by decide +kernel
theorem dX3_weighLosses_2 : decode cX3_weighLosses 2 = .ok (.iload_n 3, 1) := by decide +kernel
theorem dX3_weighLosses_3 : decode cX3_weighLosses 3 = .ok (.aload_n 1, 1) := by decide +kernel
theorem dX3_weighLosses_4 : decode cX3_weighLosses 4 = .ok (.getfield 67, 3) := by decide +kernel
theorem dX3_weighLosses_7 : decode cX3_weighLosses 7 = .ok (.if_icmp .ge 40, 3) := by decide +kernel
theorem dX3_weighLosses_10 : decode cX3_weighLosses 10 = .ok (.aload_n 0, 1) := by decide +kernel
theorem dX3_weighLosses_11 : decode cX3_weighLosses 11 = .ok (.getfield 22, 3) := by decide +kernel
theorem dX3_weighLosses_14 : decode cX3_weighLosses 14 = .ok (.iload_n 3, 1) := by decide +kernel
theorem dX3_weighLosses_15 : decode cX3_weighLosses 15 = .ok (.aload_n 0, 1) := by decide +kernel
theorem dX3_weighLosses_16 : decode cX3_weighLosses 16 = .ok (.getfield 18, 3) := by decide +kernel
theorem dX3_weighLosses_19 : decode cX3_weighLosses 19 = .ok (.iload_n 3, 1) := by decide +kernel
theorem dX3_weighLosses_20 : decode cX3_weighLosses 20 = .ok (.laload, 1) := by decide +kernel
theorem dX3_weighLosses_21 : decode cX3_weighLosses 21 = .ok (.lconst 0, 1) := by decide +kernel
theorem dX3_weighLosses_22 : decode cX3_weighLosses 22 = .ok (.lcmp, 1) := by decide +kernel
theorem dX3_weighLosses_23 : decode cX3_weighLosses 23 = .ok (.ifCond .ge 7, 3) := by decide +kernel
theorem dX3_weighLosses_26 : decode cX3_weighLosses 26 = .ok (.lconst 0, 1) := by decide +kernel
theorem dX3_weighLosses_27 : decode cX3_weighLosses 27 = .ok (.goto 6, 3) := by decide +kernel
theorem dX3_weighLosses_30 : decode cX3_weighLosses 30 = .ok (.ldc2_w 92, 3) := by decide +kernel
theorem dX3_weighLosses_33 : decode cX3_weighLosses 33 = .ok (.lastore, 1) := by decide +kernel
theorem dX3_weighLosses_34 : decode cX3_weighLosses 34 = .ok (.aload_n 0, 1) := by decide +kernel
theorem dX3_weighLosses_35 : decode cX3_weighLosses 35 = .ok (.getfield 25, 3) := by decide +kernel
theorem dX3_weighLosses_38 : decode cX3_weighLosses 38 = .ok (.iload_n 3, 1) := by decide +kernel
theorem dX3_weighLosses_39 : decode cX3_weighLosses 39 = .ok (.iconst (-1), 1) := by decide +kernel
theorem dX3_weighLosses_40 : decode cX3_weighLosses 40 = .ok (.iastore, 1) := by decide +kernel
theorem dX3_weighLosses_41 : decode cX3_weighLosses 41 = .ok (.iinc 3 1, 3) := by decide +kernel
theorem dX3_weighLosses_44 : decode cX3_weighLosses 44 = .ok (.goto (-42), 3) := by decide +kernel
theorem dX3_weighLosses_47 : decode cX3_weighLosses 47 = .ok (.iconst 1, 1) := by decide +kernel
theorem dX3_weighLosses_48 : decode cX3_weighLosses 48 = .ok (.istore_n 3, 1) := by decide +kernel
theorem dX3_weighLosses_49 : decode cX3_weighLosses 49 = .ok (.iconst 0, 1) := by decide +kernel
theorem dX3_weighLosses_50 : decode cX3_weighLosses 50 = .ok (.istore 4, 2) := by decide +kernel
theorem dX3_weighLosses_52 : decode cX3_weighLosses 52 = .ok (.iload 4, 2) := by decide +kernel
theorem dX3_weighLosses_54 : decode cX3_weighLosses 54 = .ok (.bipush 8, 2) := by decide +kernel
theorem dX3_weighLosses_56 : decode cX3_weighLosses 56 = .ok (.if_icmp .ge 60, 3) := by decide +kernel
theorem dX3_weighLosses_59 : decode cX3_weighLosses 59 = .ok (.iload_n 3, 1) := by decide +kernel
theorem dX3_weighLosses_60 : decode cX3_weighLosses 60 = .ok (.ifCond .eq 56, 3) := by decide +kernel
theorem dX3_weighLosses_63 : decode cX3_weighLosses 63 = .ok (.iconst 0, 1) := by decide +kernel
theorem dX3_weighLosses_64 : decode cX3_weighLosses 64 = .ok (.istore_n 3, 1) := by decide +kernel
theorem dX3_weighLosses_65 : decode cX3_weighLosses 65 = .ok (.iconst 0, 1) := by decide +kernel
theorem dX3_weighLosses_66 : decode cX3_weighLosses 66 = .ok (.istore 5, 2) := by decide +kernel
theorem dX3_weighLosses_68 : decode cX3_weighLosses 68 = .ok (.iload 5, 2) := by decide +kernel
theorem dX3_weighLosses_70 : decode cX3_weighLosses 70 = .ok (.aload_n 1, 1) := by decide +kernel
theorem dX3_weighLosses_71 : decode cX3_weighLosses 71 = .ok (.getfield 48, 3) := by decide +kernel
theorem dX3_weighLosses_74 : decode cX3_weighLosses 74 = .ok (.if_icmp .ge 36, 3) := by decide +kernel
theorem dX3_weighLosses_77 : decode cX3_weighLosses 77 = .ok (.iload_n 3, 1) := by decide +kernel
theorem dX3_weighLosses_78 : decode cX3_weighLosses 78 = .ok (.aload_n 0, 1) := by decide +kernel
theorem dX3_weighLosses_79 : decode cX3_weighLosses 79 = .ok (.aload_n 1, 1) := by decide +kernel
theorem dX3_weighLosses_80 : decode cX3_weighLosses 80 = .ok (.getfield 54, 3) := by decide +kernel
theorem dX3_weighLosses_83 : decode cX3_weighLosses 83 = .ok (.iload 5, 2) := by decide +kernel
theorem dX3_weighLosses_85 : decode cX3_weighLosses 85 = .ok (.aaload, 1) := by decide +kernel
theorem dX3_weighLosses_86 : decode cX3_weighLosses 86 = .ok (.iload 5, 2) := by decide +kernel
theorem dX3_weighLosses_88 : decode cX3_weighLosses 88 = .ok (.aload_n 1, 1) := by decide +kernel
theorem dX3_weighLosses_89 : decode cX3_weighLosses 89 = .ok (.getfield 54, 3) := by decide +kernel
theorem dX3_weighLosses_92 : decode cX3_weighLosses 92 = .ok (.iload 5, 2) := by decide +kernel
theorem dX3_weighLosses_94 : decode cX3_weighLosses 94 = .ok (.aaload, 1) := by decide +kernel
theorem dX3_weighLosses_95 : decode cX3_weighLosses 95 = .ok (.iload_n 2, 1) := by decide +kernel
theorem dX3_weighLosses_96 : decode cX3_weighLosses 96 = .ok (.invokestatic 58, 3) := by decide +kernel
theorem dX3_weighLosses_99 : decode cX3_weighLosses 99 = .ok (.invokevirtual 94, 3) := by decide +kernel
theorem dX3_weighLosses_102 : decode cX3_weighLosses 102 = .ok (.ior, 1) := by decide +kernel
theorem dX3_weighLosses_103 : decode cX3_weighLosses 103 = .ok (.istore_n 3, 1) := by decide +kernel
theorem dX3_weighLosses_104 : decode cX3_weighLosses 104 = .ok (.iinc 5 1, 3) := by decide +kernel
theorem dX3_weighLosses_107 : decode cX3_weighLosses 107 = .ok (.goto (-39), 3) := by decide +kernel
theorem dX3_weighLosses_110 : decode cX3_weighLosses 110 = .ok (.iinc 4 1, 3) := by decide +kernel
theorem dX3_weighLosses_113 : decode cX3_weighLosses 113 = .ok (.goto (-61), 3) := by decide +kernel
theorem dX3_weighLosses_116 : decode cX3_weighLosses 116 = .ok (.return_, 1) := by decide +kernel
theorem dX3_weigh_0 : decode cX3_weigh 0 = .ok (.aload_n 0, 1) := by decide +kernel
theorem dX3_weigh_1 : decode cX3_weigh 1 = .ok (.getfield 22, 3) := by decide +kernel
theorem dX3_weigh_4 : decode cX3_weigh 4 = .ok (.aload_n 1, 1) := by decide +kernel
theorem dX3_weigh_5 : decode cX3_weigh 5 = .ok (.getfield 86, 3) := by decide +kernel
theorem dX3_weigh_8 : decode cX3_weigh 8 = .ok (.laload, 1) := by decide +kernel
theorem dX3_weigh_9 : decode cX3_weigh 9 = .ok (.lstore 5, 2) := by decide +kernel
theorem dX3_weigh_11 : decode cX3_weigh 11 = .ok (.aload_n 0, 1) := by decide +kernel
theorem dX3_weigh_12 : decode cX3_weigh 12 = .ok (.getfield 9, 3) := by decide +kernel
theorem dX3_weigh_15 : decode cX3_weigh 15 = .ok (.iload_n 2, 1) := by decide +kernel
theorem dX3_weigh_16 : decode cX3_weigh 16 = .ok (.iaload, 1) := by decide +kernel
theorem dX3_weigh_17 : decode cX3_weigh 17 = .ok (.ifCond .le 54, 3) := by decide +kernel
theorem dX3_weigh_20 : decode cX3_weigh 20 = .ok (.lload 5, 2) := by decide +kernel
theorem dX3_weigh_22 : decode cX3_weigh 22 = .ok (.ldc2_w 92, 3) := by decide +kernel
theorem dX3_weigh_25 : decode cX3_weigh 25 = .ok (.lcmp, 1) := by decide +kernel
theorem dX3_weigh_26 : decode cX3_weigh 26 = .ok (.ifCond .ge 45, 3) := by decide +kernel
theorem dX3_weigh_29 : decode cX3_weigh 29 = .ok (.lload 5, 2) := by decide +kernel
theorem dX3_weigh_31 : decode cX3_weigh 31 = .ok (.lload_n 3, 1) := by decide +kernel
theorem dX3_weigh_32 : decode cX3_weigh 32 = .ok (.ladd, 1) := by decide +kernel
theorem dX3_weigh_33 : decode cX3_weigh 33 = .ok (.aload_n 0, 1) := by decide +kernel
theorem dX3_weigh_34 : decode cX3_weigh 34 = .ok (.getfield 22, 3) := by decide +kernel
theorem dX3_weigh_37 : decode cX3_weigh 37 = .ok (.aload_n 1, 1) := by decide +kernel
theorem dX3_weigh_38 : decode cX3_weigh 38 = .ok (.getfield 89, 3) := by decide +kernel
theorem dX3_weigh_41 : decode cX3_weigh 41 = .ok (.laload, 1) := by decide +kernel
theorem dX3_weigh_42 : decode cX3_weigh 42 = .ok (.lcmp, 1) := by decide +kernel
theorem dX3_weigh_43 : decode cX3_weigh 43 = .ok (.ifCond .ge 28, 3) := by decide +kernel
theorem dX3_weigh_46 : decode cX3_weigh 46 = .ok (.aload_n 0, 1) := by decide +kernel
theorem dX3_weigh_47 : decode cX3_weigh 47 = .ok (.getfield 22, 3) := by decide +kernel
theorem dX3_weigh_50 : decode cX3_weigh 50 = .ok (.aload_n 1, 1) := by decide +kernel
theorem dX3_weigh_51 : decode cX3_weigh 51 = .ok (.getfield 89, 3) := by decide +kernel
theorem dX3_weigh_54 : decode cX3_weigh 54 = .ok (.lload 5, 2) := by decide +kernel
theorem dX3_weigh_56 : decode cX3_weigh 56 = .ok (.lload_n 3, 1) := by decide +kernel
theorem dX3_weigh_57 : decode cX3_weigh 57 = .ok (.ladd, 1) := by decide +kernel
theorem dX3_weigh_58 : decode cX3_weigh 58 = .ok (.lastore, 1) := by decide +kernel
theorem dX3_weigh_59 : decode cX3_weigh 59 = .ok (.aload_n 0, 1) := by decide +kernel
theorem dX3_weigh_60 : decode cX3_weigh 60 = .ok (.getfield 25, 3) := by decide +kernel
theorem dX3_weigh_63 : decode cX3_weigh 63 = .ok (.aload_n 1, 1) := by decide +kernel
theorem dX3_weigh_64 : decode cX3_weigh 64 = .ok (.getfield 89, 3) := by decide +kernel
theorem dX3_weigh_67 : decode cX3_weigh 67 = .ok (.iload_n 2, 1) := by decide +kernel
theorem dX3_weigh_68 : decode cX3_weigh 68 = .ok (.iastore, 1) := by decide +kernel
theorem dX3_weigh_69 : decode cX3_weigh 69 = .ok (.iconst 1, 1) := by decide +kernel
theorem dX3_weigh_70 : decode cX3_weigh 70 = .ok (.ireturn, 1) := by decide +kernel
theorem dX3_weigh_71 : decode cX3_weigh 71 = .ok (.aload_n 0, 1) := by decide +kernel
theorem dX3_weigh_72 : decode cX3_weigh 72 = .ok (.getfield 22, 3) := by decide +kernel
theorem dX3_weigh_75 : decode cX3_weigh 75 = .ok (.aload_n 1, 1) := by decide +kernel
theorem dX3_weigh_76 : decode cX3_weigh 76 = .ok (.getfield 89, 3) := by decide +kernel
theorem dX3_weigh_79 : decode cX3_weigh 79 = .ok (.laload, 1) := by decide +kernel
theorem dX3_weigh_80 : decode cX3_weigh 80 = .ok (.lstore 7, 2) := by decide +kernel
theorem dX3_weigh_82 : decode cX3_weigh 82 = .ok (.aload_n 0, 1) := by decide +kernel
theorem dX3_weigh_83 : decode cX3_weigh 83 = .ok (.getfield 9, 3) := by decide +kernel
theorem dX3_weigh_86 : decode cX3_weigh 86 = .ok (.iload_n 2, 1) := by decide +kernel
theorem dX3_weigh_87 : decode cX3_weigh 87 = .ok (.iaload, 1) := by decide +kernel
theorem dX3_weigh_88 : decode cX3_weigh 88 = .ok (.aload_n 0, 1) := by decide +kernel
theorem dX3_weigh_89 : decode cX3_weigh 89 = .ok (.getfield 15, 3) := by decide +kernel
theorem dX3_weigh_92 : decode cX3_weigh 92 = .ok (.iload_n 2, 1) := by decide +kernel
theorem dX3_weigh_93 : decode cX3_weigh 93 = .ok (.iaload, 1) := by decide +kernel
theorem dX3_weigh_94 : decode cX3_weigh 94 = .ok (.if_icmp .ge 54, 3) := by decide +kernel
theorem dX3_weigh_97 : decode cX3_weigh 97 = .ok (.lload 7, 2) := by decide +kernel
theorem dX3_weigh_99 : decode cX3_weigh 99 = .ok (.ldc2_w 92, 3) := by decide +kernel
theorem dX3_weigh_102 : decode cX3_weigh 102 = .ok (.lcmp, 1) := by decide +kernel
theorem dX3_weigh_103 : decode cX3_weigh 103 = .ok (.ifCond .ge 45, 3) := by decide +kernel
theorem dX3_weigh_106 : decode cX3_weigh 106 = .ok (.lload 7, 2) := by decide +kernel
theorem dX3_weigh_108 : decode cX3_weigh 108 = .ok (.lload_n 3, 1) := by decide +kernel
theorem dX3_weigh_109 : decode cX3_weigh 109 = .ok (.lsub, 1) := by decide +kernel
theorem dX3_weigh_110 : decode cX3_weigh 110 = .ok (.aload_n 0, 1) := by decide +kernel
theorem dX3_weigh_111 : decode cX3_weigh 111 = .ok (.getfield 22, 3) := by decide +kernel
theorem dX3_weigh_114 : decode cX3_weigh 114 = .ok (.aload_n 1, 1) := by decide +kernel
theorem dX3_weigh_115 : decode cX3_weigh 115 = .ok (.getfield 86, 3) := by decide +kernel
theorem dX3_weigh_118 : decode cX3_weigh 118 = .ok (.laload, 1) := by decide +kernel
theorem dX3_weigh_119 : decode cX3_weigh 119 = .ok (.lcmp, 1) := by decide +kernel
theorem dX3_weigh_120 : decode cX3_weigh 120 = .ok (.ifCond .ge 28, 3) := by decide +kernel
theorem dX3_weigh_123 : decode cX3_weigh 123 = .ok (.aload_n 0, 1) := by decide +kernel
theorem dX3_weigh_124 : decode cX3_weigh 124 = .ok (.getfield 22, 3) := by decide +kernel
theorem dX3_weigh_127 : decode cX3_weigh 127 = .ok (.aload_n 1, 1) := by decide +kernel
theorem dX3_weigh_128 : decode cX3_weigh 128 = .ok (.getfield 86, 3) := by decide +kernel
theorem dX3_weigh_131 : decode cX3_weigh 131 = .ok (.lload 7, 2) := by decide +kernel
theorem dX3_weigh_133 : decode cX3_weigh 133 = .ok (.lload_n 3, 1) := by decide +kernel
theorem dX3_weigh_134 : decode cX3_weigh 134 = .ok (.lsub, 1) := by decide +kernel
theorem dX3_weigh_135 : decode cX3_weigh 135 = .ok (.lastore, 1) := by decide +kernel
theorem dX3_weigh_136 : decode cX3_weigh 136 = .ok (.aload_n 0, 1) := by decide +kernel
theorem dX3_weigh_137 : decode cX3_weigh 137 = .ok (.getfield 25, 3) := by decide +kernel
theorem dX3_weigh_140 : decode cX3_weigh 140 = .ok (.aload_n 1, 1) := by decide +kernel
theorem dX3_weigh_141 : decode cX3_weigh 141 = .ok (.getfield 86, 3) := by decide +kernel
theorem dX3_weigh_144 : decode cX3_weigh 144 = .ok (.iload_n 2, 1) := by decide +kernel
theorem dX3_weigh_145 : decode cX3_weigh 145 = .ok (.iastore, 1) := by decide +kernel
theorem dX3_weigh_146 : decode cX3_weigh 146 = .ok (.iconst 1, 1) := by decide +kernel
theorem dX3_weigh_147 : decode cX3_weigh 147 = .ok (.ireturn, 1) := by decide +kernel
theorem dX3_weigh_148 : decode cX3_weigh 148 = .ok (.iconst 0, 1) := by decide +kernel
theorem dX3_weigh_149 : decode cX3_weigh 149 = .ok (.ireturn, 1) := by decide +kernel
theorem dX3_cheapestEnd_0 : decode cX3_cheapestEnd 0 = .ok (.iconst (-1), 1) := by decide +kernel
theorem dX3_cheapestEnd_1 : decode cX3_cheapestEnd 1 = .ok (.istore_n 2, 1) := by decide +kernel
theorem dX3_cheapestEnd_2 : decode cX3_cheapestEnd 2 = .ok (.iconst 0, 1) := by decide +kernel
theorem dX3_cheapestEnd_3 : decode cX3_cheapestEnd 3 = .ok (.istore_n 3, 1) := by decide +kernel
theorem dX3_cheapestEnd_4 : decode cX3_cheapestEnd 4 = .ok (.iload_n 3, 1) := by decide +kernel
theorem dX3_cheapestEnd_5 : decode cX3_cheapestEnd 5 = .ok (.aload_n 1, 1) := by decide +kernel
theorem dX3_cheapestEnd_6 : decode cX3_cheapestEnd 6 = .ok (.getfield 67, 3) := by decide +kernel
theorem dX3_cheapestEnd_9 : decode cX3_cheapestEnd 9 = .ok (.if_icmp .ge 56, 3) := by decide +kernel
theorem dX3_cheapestEnd_12 : decode cX3_cheapestEnd 12 = .ok (.aload_n 0, 1) := by decide +kernel
theorem dX3_cheapestEnd_13 : decode cX3_cheapestEnd 13 = .ok (.getfield 18, 3) := by decide +kernel
theorem dX3_cheapestEnd_16 : decode cX3_cheapestEnd 16 = .ok (.iload_n 3, 1) := by decide +kernel
theorem dX3_cheapestEnd_17 : decode cX3_cheapestEnd 17 = .ok (.laload, 1) := by decide +kernel
theorem dX3_cheapestEnd_18 : decode cX3_cheapestEnd 18 = .ok (.lconst 0, 1) := by decide +kernel
theorem dX3_cheapestEnd_19 : decode cX3_cheapestEnd 19 = .ok (.lcmp, 1) := by decide +kernel
theorem dX3_cheapestEnd_20 : decode cX3_cheapestEnd 20 = .ok (.ifCond .le 39, 3) := by decide +kernel
theorem dX3_cheapestEnd_23 : decode cX3_cheapestEnd 23 = .ok (.aload_n 0, 1) := by decide +kernel
theorem dX3_cheapestEnd_24 : decode cX3_cheapestEnd 24 = .ok (.getfield 22, 3) := by decide +kernel
theorem dX3_cheapestEnd_27 : decode cX3_cheapestEnd 27 = .ok (.iload_n 3, 1) := by decide +kernel
theorem dX3_cheapestEnd_28 : decode cX3_cheapestEnd 28 = .ok (.laload, 1) := by decide +kernel
theorem dX3_cheapestEnd_29 : decode cX3_cheapestEnd 29 = .ok (.ldc2_w 92, 3) := by decide +kernel
theorem dX3_cheapestEnd_32 : decode cX3_cheapestEnd 32 = .ok (.lcmp, 1) := by decide +kernel
theorem dX3_cheapestEnd_33 : decode cX3_cheapestEnd 33 = .ok (.ifCond .ge 26, 3) := by decide +kernel
theorem dX3_cheapestEnd_36 : decode cX3_cheapestEnd 36 = .ok (.iload_n 2, 1) := by decide +kernel
theorem dX3_cheapestEnd_37 : decode cX3_cheapestEnd 37 = .ok (.iconst (-1), 1) := by decide +kernel
theorem dX3_cheapestEnd_38 : decode cX3_cheapestEnd 38 = .ok (.if_icmp .eq 19, 3) := by decide +kernel
theorem dX3_cheapestEnd_41 : decode cX3_cheapestEnd 41 = .ok (.aload_n 0, 1) := by decide +kernel
theorem dX3_cheapestEnd_42 : decode cX3_cheapestEnd 42 = .ok (.getfield 22, 3) := by decide +kernel
theorem dX3_cheapestEnd_45 : decode cX3_cheapestEnd 45 = .ok (.iload_n 3, 1) := by decide +kernel
theorem dX3_cheapestEnd_46 : decode cX3_cheapestEnd 46 = .ok (.laload, 1) := by decide +kernel
theorem dX3_cheapestEnd_47 : decode cX3_cheapestEnd 47 = .ok (.aload_n 0, 1) := by decide +kernel
theorem dX3_cheapestEnd_48 : decode cX3_cheapestEnd 48 = .ok (.getfield 22, 3) := by decide +kernel
theorem dX3_cheapestEnd_51 : decode cX3_cheapestEnd 51 = .ok (.iload_n 2, 1) := by decide +kernel
theorem dX3_cheapestEnd_52 : decode cX3_cheapestEnd 52 = .ok (.laload, 1) := by decide +kernel
theorem dX3_cheapestEnd_53 : decode cX3_cheapestEnd 53 = .ok (.lcmp, 1) := by decide +kernel
theorem dX3_cheapestEnd_54 : decode cX3_cheapestEnd 54 = .ok (.ifCond .ge 5, 3) := by decide +kernel
theorem dX3_cheapestEnd_57 : decode cX3_cheapestEnd 57 = .ok (.iload_n 3, 1) := by decide +kernel
theorem dX3_cheapestEnd_58 : decode cX3_cheapestEnd 58 = .ok (.istore_n 2, 1) := by decide +kernel
theorem dX3_cheapestEnd_59 : decode cX3_cheapestEnd 59 = .ok (.iinc 3 1, 3) := by decide +kernel
theorem dX3_cheapestEnd_62 : decode cX3_cheapestEnd 62 = .ok (.goto (-58), 3) := by decide +kernel
theorem dX3_cheapestEnd_65 : decode cX3_cheapestEnd 65 = .ok (.iload_n 2, 1) := by decide +kernel
theorem dX3_cheapestEnd_66 : decode cX3_cheapestEnd 66 = .ok (.ireturn, 1) := by decide +kernel
theorem dX3_takeBack_0 : decode cX3_takeBack 0 = .ok (.aload_n 0, 1) := by decide +kernel
theorem dX3_takeBack_1 : decode cX3_takeBack 1 = .ok (.getfield 18, 3) := by decide +kernel
theorem dX3_takeBack_4 : decode cX3_takeBack 4 = .ok (.iload_n 2, 1) := by decide +kernel
theorem dX3_takeBack_5 : decode cX3_takeBack 5 = .ok (.laload, 1) := by decide +kernel
theorem dX3_takeBack_6 : decode cX3_takeBack 6 = .ok (.lstore_n 3, 1) := by decide +kernel
theorem dX3_takeBack_7 : decode cX3_takeBack 7 = .ok (.iload_n 2, 1) := by decide +kernel
theorem dX3_takeBack_8 : decode cX3_takeBack 8 = .ok (.istore 5, 2) := by decide +kernel
theorem dX3_takeBack_10 : decode cX3_takeBack 10 = .ok (.iconst 0, 1) := by decide +kernel
theorem dX3_takeBack_11 : decode cX3_takeBack 11 = .ok (.istore 6, 2) := by decide +kernel
theorem dX3_takeBack_13 : decode cX3_takeBack 13 = .ok (.iload 6, 2) := by decide +kernel
theorem dX3_takeBack_15 : decode cX3_takeBack 15 = .ok (.bipush 8, 2) := by decide +kernel
theorem dX3_takeBack_17 : decode cX3_takeBack 17 = .ok (.if_icmp .ge 119, 3) := by decide +kernel
theorem dX3_takeBack_20 : decode cX3_takeBack 20 = .ok (.aload_n 0, 1) := by decide +kernel
theorem dX3_takeBack_21 : decode cX3_takeBack 21 = .ok (.getfield 25, 3) := by decide +kernel
theorem dX3_takeBack_24 : decode cX3_takeBack 24 = .ok (.iload 5, 2) := by decide +kernel
theorem dX3_takeBack_26 : decode cX3_takeBack 26 = .ok (.iaload, 1) := by decide +kernel
theorem dX3_takeBack_27 : decode cX3_takeBack 27 = .ok (.iconst (-1), 1) := by decide +kernel
theorem dX3_takeBack_28 : decode cX3_takeBack 28 = .ok (.if_icmp .eq 108, 3) := by decide +kernel
theorem dX3_takeBack_31 : decode cX3_takeBack 31 = .ok (.aload_n 1, 1) := by decide +kernel
theorem dX3_takeBack_32 : decode cX3_takeBack 32 = .ok (.getfield 54, 3) := by decide +kernel
theorem dX3_takeBack_35 : decode cX3_takeBack 35 = .ok (.aload_n 0, 1) := by decide +kernel
theorem dX3_takeBack_36 : decode cX3_takeBack 36 = .ok (.getfield 25, 3) := by decide +kernel
theorem dX3_takeBack_39 : decode cX3_takeBack 39 = .ok (.iload 5, 2) := by decide +kernel
theorem dX3_takeBack_41 : decode cX3_takeBack 41 = .ok (.iaload, 1) := by decide +kernel
theorem dX3_takeBack_42 : decode cX3_takeBack 42 = .ok (.aaload, 1) := by decide +kernel
theorem dX3_takeBack_43 : decode cX3_takeBack 43 = .ok (.astore 7, 2) := by decide +kernel
theorem dX3_takeBack_45 : decode cX3_takeBack 45 = .ok (.aload 7, 2) := by decide +kernel
theorem dX3_takeBack_47 : decode cX3_takeBack 47 = .ok (.getfield 89, 3) := by decide +kernel
theorem dX3_takeBack_50 : decode cX3_takeBack 50 = .ok (.iload 5, 2) := by decide +kernel
theorem dX3_takeBack_52 : decode cX3_takeBack 52 = .ok (.if_icmp .ne 18, 3) := by decide +kernel
theorem dX3_takeBack_55 : decode cX3_takeBack 55 = .ok (.aload_n 0, 1) := by decide +kernel
theorem dX3_takeBack_56 : decode cX3_takeBack 56 = .ok (.getfield 9, 3) := by decide +kernel
theorem dX3_takeBack_59 : decode cX3_takeBack 59 = .ok (.aload_n 0, 1) := by decide +kernel
theorem dX3_takeBack_60 : decode cX3_takeBack 60 = .ok (.getfield 25, 3) := by decide +kernel
theorem dX3_takeBack_63 : decode cX3_takeBack 63 = .ok (.iload 5, 2) := by decide +kernel
theorem dX3_takeBack_65 : decode cX3_takeBack 65 = .ok (.iaload, 1) := by decide +kernel
theorem dX3_takeBack_66 : decode cX3_takeBack 66 = .ok (.iaload, 1) := by decide +kernel
theorem dX3_takeBack_67 : decode cX3_takeBack 67 = .ok (.goto 28, 3) := by decide +kernel
theorem dX3_takeBack_70 : decode cX3_takeBack 70 = .ok (.aload_n 0, 1) := by decide +kernel
theorem dX3_takeBack_71 : decode cX3_takeBack 71 = .ok (.getfield 15, 3) := by decide +kernel
theorem dX3_takeBack_74 : decode cX3_takeBack 74 = .ok (.aload_n 0, 1) := by decide +kernel
theorem dX3_takeBack_75 : decode cX3_takeBack 75 = .ok (.getfield 25, 3) := by decide +kernel
theorem dX3_takeBack_78 : decode cX3_takeBack 78 = .ok (.iload 5, 2) := by decide +kernel
theorem dX3_takeBack_80 : decode cX3_takeBack 80 = .ok (.iaload, 1) := by decide +kernel
theorem dX3_takeBack_81 : decode cX3_takeBack 81 = .ok (.iaload, 1) := by decide +kernel
theorem dX3_takeBack_82 : decode cX3_takeBack 82 = .ok (.aload_n 0, 1) := by decide +kernel
theorem dX3_takeBack_83 : decode cX3_takeBack 83 = .ok (.getfield 9, 3) := by decide +kernel
theorem dX3_takeBack_86 : decode cX3_takeBack 86 = .ok (.aload_n 0, 1) := by decide +kernel
theorem dX3_takeBack_87 : decode cX3_takeBack 87 = .ok (.getfield 25, 3) := by decide +kernel
theorem dX3_takeBack_90 : decode cX3_takeBack 90 = .ok (.iload 5, 2) := by decide +kernel
theorem dX3_takeBack_92 : decode cX3_takeBack 92 = .ok (.iaload, 1) := by decide +kernel
theorem dX3_takeBack_93 : decode cX3_takeBack 93 = .ok (.iaload, 1) := by decide +kernel
theorem dX3_takeBack_94 : decode cX3_takeBack 94 = .ok (.isub, 1) := by decide +kernel
theorem dX3_takeBack_95 : decode cX3_takeBack 95 = .ok (.istore 8, 2) := by decide +kernel
theorem dX3_takeBack_97 : decode cX3_takeBack 97 = .ok (.lload_n 3, 1) := by decide +kernel
theorem dX3_takeBack_98 : decode cX3_takeBack 98 = .ok (.iload 8, 2) := by decide +kernel
theorem dX3_takeBack_100 : decode cX3_takeBack 100 = .ok (.i2l, 1) := by decide +kernel
theorem dX3_takeBack_101 : decode cX3_takeBack 101 = .ok (.invokestatic 98, 3) := by decide +kernel
theorem dX3_takeBack_104 : decode cX3_takeBack 104 = .ok (.lstore_n 3, 1) := by decide +kernel
theorem dX3_takeBack_105 : decode cX3_takeBack 105 = .ok (.aload 7, 2) := by decide +kernel
theorem dX3_takeBack_107 : decode cX3_takeBack 107 = .ok (.getfield 89, 3) := by decide +kernel
theorem dX3_takeBack_110 : decode cX3_takeBack 110 = .ok (.iload 5, 2) := by decide +kernel
theorem dX3_takeBack_112 : decode cX3_takeBack 112 = .ok (.if_icmp .ne 11, 3) := by decide +kernel
theorem dX3_takeBack_115 : decode cX3_takeBack 115 = .ok (.aload 7, 2) := by decide +kernel
theorem dX3_takeBack_117 : decode cX3_takeBack 117 = .ok (.getfield 86, 3) := by decide +kernel
theorem dX3_takeBack_120 : decode cX3_takeBack 120 = .ok (.goto 8, 3) := by decide +kernel
theorem dX3_takeBack_123 : decode cX3_takeBack 123 = .ok (.aload 7, 2) := by decide +kernel
theorem dX3_takeBack_125 : decode cX3_takeBack 125 = .ok (.getfield 89, 3) := by decide +kernel
theorem dX3_takeBack_128 : decode cX3_takeBack 128 = .ok (.istore 5, 2) := by decide +kernel
theorem dX3_takeBack_130 : decode cX3_takeBack 130 = .ok (.iinc 6 1, 3) := by decide +kernel
theorem dX3_takeBack_133 : decode cX3_takeBack 133 = .ok (.goto (-120), 3) := by decide +kernel
theorem dX3_takeBack_136 : decode cX3_takeBack 136 = .ok (.lload_n 3, 1) := by decide +kernel
theorem dX3_takeBack_137 : decode cX3_takeBack 137 = .ok (.aload_n 0, 1) := by decide +kernel
theorem dX3_takeBack_138 : decode cX3_takeBack 138 = .ok (.getfield 18, 3) := by decide +kernel
theorem dX3_takeBack_141 : decode cX3_takeBack 141 = .ok (.iload 5, 2) := by decide +kernel
theorem dX3_takeBack_143 : decode cX3_takeBack 143 = .ok (.laload, 1) := by decide +kernel
theorem dX3_takeBack_144 : decode cX3_takeBack 144 = .ok (.lneg, 1) := by decide +kernel
theorem dX3_takeBack_145 : decode cX3_takeBack 145 = .ok (.invokestatic 98, 3) := by decide +kernel
theorem dX3_takeBack_148 : decode cX3_takeBack 148 = .ok (.lstore_n 3, 1) := by decide +kernel
theorem dX3_takeBack_149 : decode cX3_takeBack 149 = .ok (.lload_n 3, 1) := by decide +kernel
theorem dX3_takeBack_150 : decode cX3_takeBack 150 = .ok (.lconst 0, 1) := by decide +kernel
theorem dX3_takeBack_151 : decode cX3_takeBack 151 = .ok (.lcmp, 1) := by decide +kernel
theorem dX3_takeBack_152 : decode cX3_takeBack 152 = .ok (.ifCond .gt 5, 3) := by decide +kernel
theorem dX3_takeBack_155 : decode cX3_takeBack 155 = .ok (.iconst 0, 1) := by decide +kernel
theorem dX3_takeBack_156 : decode cX3_takeBack 156 = .ok (.ireturn, 1) := by decide +kernel
theorem dX3_takeBack_157 : decode cX3_takeBack 157 = .ok (.aload_n 0, 1) := by decide +kernel
theorem dX3_takeBack_158 : decode cX3_takeBack 158 = .ok (.getfield 18, 3) := by decide +kernel
theorem dX3_takeBack_161 : decode cX3_takeBack 161 = .ok (.iload 5, 2) := by decide +kernel
theorem dX3_takeBack_163 : decode cX3_takeBack 163 = .ok (.dup2, 1) := by decide +kernel
theorem dX3_takeBack_164 : decode cX3_takeBack 164 = .ok (.laload, 1) := by decide +kernel
theorem dX3_takeBack_165 : decode cX3_takeBack 165 = .ok (.lload_n 3, 1) := by decide +kernel
theorem dX3_takeBack_166 : decode cX3_takeBack 166 = .ok (.ladd, 1) := by decide +kernel
theorem dX3_takeBack_167 : decode cX3_takeBack 167 = .ok (.lastore, 1) := by decide +kernel
theorem dX3_takeBack_168 : decode cX3_takeBack 168 = .ok (.aload_n 0, 1) := by decide +kernel
theorem dX3_takeBack_169 : decode cX3_takeBack 169 = .ok (.getfield 18, 3) := by decide +kernel
theorem dX3_takeBack_172 : decode cX3_takeBack 172 = .ok (.iload_n 2, 1) := by decide +kernel
theorem dX3_takeBack_173 : decode cX3_takeBack 173 = .ok (.dup2, 1) := by decide +kernel
theorem dX3_takeBack_174 : decode cX3_takeBack 174 = .ok (.laload, 1) := by decide +kernel
theorem dX3_takeBack_175 : decode cX3_takeBack 175 = .ok (.lload_n 3, 1) := by decide +kernel
theorem dX3_takeBack_176 : decode cX3_takeBack 176 = .ok (.lsub, 1) := by decide +kernel
theorem dX3_takeBack_177 : decode cX3_takeBack 177 = .ok (.lastore, 1) := by decide +kernel
theorem dX3_takeBack_178 : decode cX3_takeBack 178 = .ok (.aload_n 0, 1) := by decide +kernel
theorem dX3_takeBack_179 : decode cX3_takeBack 179 = .ok (.aload_n 1, 1) := by decide +kernel
theorem dX3_takeBack_180 : decode cX3_takeBack 180 = .ok (.iload_n 2, 1) := by decide +kernel
theorem dX3_takeBack_181 : decode cX3_takeBack 181 = .ok (.lload_n 3, 1) := by decide +kernel
theorem dX3_takeBack_182 : decode cX3_takeBack 182 = .ok (.l2i, 1) := by decide +kernel
theorem dX3_takeBack_183 : decode cX3_takeBack 183 = .ok (.invokevirtual 104, 3) := by decide +kernel
theorem dX3_takeBack_186 : decode cX3_takeBack 186 = .ok (.iconst 1, 1) := by decide +kernel
theorem dX3_takeBack_187 : decode cX3_takeBack 187 = .ok (.ireturn, 1) := by decide +kernel
theorem dX3_change_0 : decode cX3_change 0 = .ok (.iload_n 2, 1) := by decide +kernel
theorem dX3_change_1 : decode cX3_change 1 = .ok (.istore 4, 2) := by decide +kernel
theorem dX3_change_3 : decode cX3_change 3 = .ok (.iconst 0, 1) := by decide +kernel
theorem dX3_change_4 : decode cX3_change 4 = .ok (.istore 5, 2) := by decide +kernel
theorem dX3_change_6 : decode cX3_change 6 = .ok (.iload 5, 2) := by decide +kernel
theorem dX3_change_8 : decode cX3_change 8 = .ok (.bipush 8, 2) := by decide +kernel
theorem dX3_change_10 : decode cX3_change 10 = .ok (.if_icmp .ge 90, 3) := by decide +kernel
theorem dX3_change_13 : decode cX3_change 13 = .ok (.aload_n 0, 1) := by decide +kernel
theorem dX3_change_14 : decode cX3_change 14 = .ok (.getfield 25, 3) := by decide +kernel
theorem dX3_change_17 : decode cX3_change 17 = .ok (.iload 4, 2) := by decide +kernel
theorem dX3_change_19 : decode cX3_change 19 = .ok (.iaload, 1) := by decide +kernel
theorem dX3_change_20 : decode cX3_change 20 = .ok (.iconst (-1), 1) := by decide +kernel
theorem dX3_change_21 : decode cX3_change 21 = .ok (.if_icmp .eq 79, 3) := by decide +kernel
theorem dX3_change_24 : decode cX3_change 24 = .ok (.aload_n 1, 1) := by decide +kernel
theorem dX3_change_25 : decode cX3_change 25 = .ok (.getfield 54, 3) := by decide +kernel
theorem dX3_change_28 : decode cX3_change 28 = .ok (.aload_n 0, 1) := by decide +kernel
theorem dX3_change_29 : decode cX3_change 29 = .ok (.getfield 25, 3) := by decide +kernel
theorem dX3_change_32 : decode cX3_change 32 = .ok (.iload 4, 2) := by decide +kernel
theorem dX3_change_34 : decode cX3_change 34 = .ok (.iaload, 1) := by decide +kernel
theorem dX3_change_35 : decode cX3_change 35 = .ok (.aaload, 1) := by decide +kernel
theorem dX3_change_36 : decode cX3_change 36 = .ok (.astore 6, 2) := by decide +kernel
theorem dX3_change_38 : decode cX3_change 38 = .ok (.aload_n 0, 1) := by decide +kernel
theorem dX3_change_39 : decode cX3_change 39 = .ok (.getfield 9, 3) := by decide +kernel
theorem dX3_change_42 : decode cX3_change 42 = .ok (.aload_n 0, 1) := by decide +kernel
theorem dX3_change_43 : decode cX3_change 43 = .ok (.getfield 25, 3) := by decide +kernel
theorem dX3_change_46 : decode cX3_change 46 = .ok (.iload 4, 2) := by decide +kernel
theorem dX3_change_48 : decode cX3_change 48 = .ok (.iaload, 1) := by decide +kernel
theorem dX3_change_49 : decode cX3_change 49 = .ok (.dup2, 1) := by decide +kernel
