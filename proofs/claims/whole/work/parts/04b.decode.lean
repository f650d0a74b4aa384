theorem dX3_change_50 : decode cX3_change 50 = .ok (.iaload, 1) := by decide +kernel
theorem dX3_change_51 : decode cX3_change 51 = .ok (.aload 6, 2) := by decide +kernel
theorem dX3_change_53 : decode cX3_change 53 = .ok (.getfield 89, 3) := by decide +kernel
theorem dX3_change_56 : decode cX3_change 56 = .ok (.iload 4, 2) := by decide +kernel
theorem dX3_change_58 : decode cX3_change 58 = .ok (.if_icmp .ne 8, 3) := by decide +kernel
theorem dX3_change_61 : decode cX3_change 61 = .ok (.iload_n 3, 1) := by decide +kernel
theorem dX3_change_62 : decode cX3_change 62 = .ok (.ineg, 1) := by decide +kernel
theorem dX3_change_63 : decode cX3_change 63 = .ok (.goto 4, 3) := by decide +kernel
theorem dX3_change_66 : decode cX3_change 66 = .ok (.iload_n 3, 1) := by decide +kernel
theorem dX3_change_67 : decode cX3_change 67 = .ok (.iadd, 1) := by decide +kernel
theorem dX3_change_68 : decode cX3_change 68 = .ok (.iastore, 1) := by decide +kernel
theorem dX3_change_69 : decode cX3_change 69 = .ok (.aload 6, 2) := by decide +kernel
theorem dX3_change_71 : decode cX3_change 71 = .ok (.getfield 89, 3) := by decide +kernel
theorem dX3_change_74 : decode cX3_change 74 = .ok (.iload 4, 2) := by decide +kernel
theorem dX3_change_76 : decode cX3_change 76 = .ok (.if_icmp .ne 11, 3) := by decide +kernel
theorem dX3_change_79 : decode cX3_change 79 = .ok (.aload 6, 2) := by decide +kernel
theorem dX3_change_81 : decode cX3_change 81 = .ok (.getfield 86, 3) := by decide +kernel
theorem dX3_change_84 : decode cX3_change 84 = .ok (.goto 8, 3) := by decide +kernel
theorem dX3_change_87 : decode cX3_change 87 = .ok (.aload 6, 2) := by decide +kernel
theorem dX3_change_89 : decode cX3_change 89 = .ok (.getfield 89, 3) := by decide +kernel
theorem dX3_change_92 : decode cX3_change 92 = .ok (.istore 4, 2) := by decide +kernel
theorem dX3_change_94 : decode cX3_change 94 = .ok (.iinc 5 1, 3) := by decide +kernel
theorem dX3_change_97 : decode cX3_change 97 = .ok (.goto (-91), 3) := by decide +kernel
theorem dX3_change_100 : decode cX3_change 100 = .ok (.return_, 1) := by decide +kernel
theorem dX4_init_0 : decode cX4_init 0 = .ok (.aload_n 0, 1) := by decide +kernel
theorem dX4_init_1 : decode cX4_init 1 = .ok (.invokespecial 3, 3) := by decide +kernel
theorem dX4_init_4 : decode cX4_init 4 = .ok (.aload_n 0, 1) := by decide +kernel
theorem dX4_init_5 : decode cX4_init 5 = .ok (.new 9, 3) := by decide +kernel
theorem dX4_init_8 : decode cX4_init 8 = .ok (.dup, 1) := by decide +kernel
theorem dX4_init_9 : decode cX4_init 9 = .ok (.invokespecial 11, 3) := by decide +kernel
theorem dX4_init_12 : decode cX4_init 12 = .ok (.putfield 12, 3) := by decide +kernel
theorem dX4_init_15 : decode cX4_init 15 = .ok (.aload_n 0, 1) := by decide +kernel
theorem dX4_init_16 : decode cX4_init 16 = .ok (.new 18, 3) := by decide +kernel
theorem dX4_init_19 : decode cX4_init 19 = .ok (.dup, 1) := by decide +kernel
theorem dX4_init_20 : decode cX4_init 20 = .ok (.invokespecial 20, 3) := by decide +kernel
theorem dX4_init_23 : decode cX4_init 23 = .ok (.putfield 21, 3) := by decide +kernel
theorem dX4_init_26 : decode cX4_init 26 = .ok (.aload_n 0, 1) := by decide +kernel
theorem dX4_init_27 : decode cX4_init 27 = .ok (.new 25, 3) := by decide +kernel
theorem dX4_init_30 : decode cX4_init 30 = .ok (.dup, 1) := by decide +kernel
theorem dX4_init_31 : decode cX4_init 31 = .ok (.invokespecial 27, 3) := by decide +kernel
theorem dX4_init_34 : decode cX4_init 34 = .ok (.putfield 28, 3) := by decide +kernel
theorem dX4_init_37 : decode cX4_init 37 = .ok (.return_, 1) := by decide +kernel
theorem dX4_pass_0 : decode cX4_pass 0 = .ok (.aload_n 0, 1) := by decide +kernel
theorem dX4_pass_1 : decode cX4_pass 1 = .ok (.getfield 12, 3) := by decide +kernel
theorem dX4_pass_4 : decode cX4_pass 4 = .ok (.aload_n 1, 1) := by decide +kernel
theorem dX4_pass_5 : decode cX4_pass 5 = .ok (.invokevirtual 32, 3) := by decide +kernel
theorem dX4_pass_8 : decode cX4_pass 8 = .ok (.aload_n 0, 1) := by decide +kernel
theorem dX4_pass_9 : decode cX4_pass 9 = .ok (.aload_n 1, 1) := by decide +kernel
theorem dX4_pass_10 : decode cX4_pass 10 = .ok (.invokevirtual 36, 3) := by decide +kernel
theorem dX4_pass_13 : decode cX4_pass 13 = .ok (.iconst 1, 1) := by decide +kernel
theorem dX4_pass_14 : decode cX4_pass 14 = .ok (.istore_n 2, 1) := by decide +kernel
theorem dX4_pass_15 : decode cX4_pass 15 = .ok (.iconst 0, 1) := by decide +kernel
theorem dX4_pass_16 : decode cX4_pass 16 = .ok (.istore_n 3, 1) := by decide +kernel
theorem dX4_pass_17 : decode cX4_pass 17 = .ok (.iload_n 3, 1) := by decide +kernel
theorem dX4_pass_18 : decode cX4_pass 18 = .ok (.sipush 24001, 3) := by decide +kernel
theorem dX4_pass_21 : decode cX4_pass 21 = .ok (.if_icmp .ge 19, 3) := by decide +kernel
theorem dX4_pass_24 : decode cX4_pass 24 = .ok (.iload_n 2, 1) := by decide +kernel
theorem dX4_pass_25 : decode cX4_pass 25 = .ok (.ifCond .eq 15, 3) := by decide +kernel
theorem dX4_pass_28 : decode cX4_pass 28 = .ok (.aload_n 0, 1) := by decide +kernel
theorem dX4_pass_29 : decode cX4_pass 29 = .ok (.aload_n 1, 1) := by decide +kernel
theorem dX4_pass_30 : decode cX4_pass 30 = .ok (.invokevirtual 39, 3) := by decide +kernel
theorem dX4_pass_33 : decode cX4_pass 33 = .ok (.istore_n 2, 1) := by decide +kernel
theorem dX4_pass_34 : decode cX4_pass 34 = .ok (.iinc 3 1, 3) := by decide +kernel
theorem dX4_pass_37 : decode cX4_pass 37 = .ok (.goto (-20), 3) := by decide +kernel
theorem dX4_pass_40 : decode cX4_pass 40 = .ok (.aload_n 0, 1) := by decide +kernel
theorem dX4_pass_41 : decode cX4_pass 41 = .ok (.aload_n 1, 1) := by decide +kernel
theorem dX4_pass_42 : decode cX4_pass 42 = .ok (.invokevirtual 43, 3) := by decide +kernel
theorem dX4_pass_45 : decode cX4_pass 45 = .ok (.aload_n 0, 1) := by decide +kernel
theorem dX4_pass_46 : decode cX4_pass 46 = .ok (.aload_n 1, 1) := by decide +kernel
theorem dX4_pass_47 : decode cX4_pass 47 = .ok (.invokevirtual 46, 3) := by decide +kernel
theorem dX4_pass_50 : decode cX4_pass 50 = .ok (.aload_n 1, 1) := by decide +kernel
theorem dX4_pass_51 : decode cX4_pass 51 = .ok (.dup, 1) := by decide +kernel
theorem dX4_pass_52 : decode cX4_pass 52 = .ok (.getfield 49, 3) := by decide +kernel
theorem dX4_pass_55 : decode cX4_pass 55 = .ok (.iconst 1, 1) := by decide +kernel
theorem dX4_pass_56 : decode cX4_pass 56 = .ok (.iadd, 1) := by decide +kernel
theorem dX4_pass_57 : decode cX4_pass 57 = .ok (.putfield 49, 3) := by decide +kernel
theorem dX4_pass_60 : decode cX4_pass 60 = .ok (.return_, 1) := by decide +kernel
theorem dX4_settleRings_0 : decode cX4_settleRings 0 = .ok (.iconst 0, 1) := by decide +kernel
theorem dX4_settleRings_1 : decode cX4_settleRings 1 = .ok (.istore_n 2, 1) := by decide +kernel
theorem dX4_settleRings_2 : decode cX4_settleRings 2 = .ok (.iload_n 2, 1) := by decide +kernel
theorem dX4_settleRings_3 : decode cX4_settleRings 3 = .ok (.bipush 24, 2) := by decide +kernel
theorem dX4_settleRings_5 : decode cX4_settleRings 5 = .ok (.if_icmp .ge 63, 3) := by decide +kernel
theorem dX4_settleRings_8 : decode cX4_settleRings 8 = .ok (.aload_n 0, 1) := by decide +kernel
theorem dX4_settleRings_9 : decode cX4_settleRings 9 = .ok (.getfield 21, 3) := by decide +kernel
theorem dX4_settleRings_12 : decode cX4_settleRings 12 = .ok (.aload_n 1, 1) := by decide +kernel
theorem dX4_settleRings_13 : decode cX4_settleRings 13 = .ok (.aload_n 0, 1) := by decide +kernel
theorem dX4_settleRings_14 : decode cX4_settleRings 14 = .ok (.getfield 12, 3) := by decide +kernel
theorem dX4_settleRings_17 : decode cX4_settleRings 17 = .ok (.invokevirtual 55, 3) := by decide +kernel
theorem dX4_settleRings_20 : decode cX4_settleRings 20 = .ok (.ifCond .eq 48, 3) := by decide +kernel
theorem dX4_settleRings_23 : decode cX4_settleRings 23 = .ok (.iconst 0, 1) := by decide +kernel
theorem dX4_settleRings_24 : decode cX4_settleRings 24 = .ok (.istore_n 3, 1) := by decide +kernel
theorem dX4_settleRings_25 : decode cX4_settleRings 25 = .ok (.iload_n 3, 1) := by decide +kernel
theorem dX4_settleRings_26 : decode cX4_settleRings 26 = .ok (.aload_n 0, 1) := by decide +kernel
theorem dX4_settleRings_27 : decode cX4_settleRings 27 = .ok (.getfield 21, 3) := by decide +kernel
theorem dX4_settleRings_30 : decode cX4_settleRings 30 = .ok (.getfield 59, 3) := by decide +kernel
theorem dX4_settleRings_33 : decode cX4_settleRings 33 = .ok (.if_icmp .ge 29, 3) := by decide +kernel
theorem dX4_settleRings_36 : decode cX4_settleRings 36 = .ok (.aload_n 1, 1) := by decide +kernel
theorem dX4_settleRings_37 : decode cX4_settleRings 37 = .ok (.aload_n 0, 1) := by decide +kernel
theorem dX4_settleRings_38 : decode cX4_settleRings 38 = .ok (.getfield 21, 3) := by decide +kernel
theorem dX4_settleRings_41 : decode cX4_settleRings 41 = .ok (.getfield 62, 3) := by decide +kernel
theorem dX4_settleRings_44 : decode cX4_settleRings 44 = .ok (.iload_n 3, 1) := by decide +kernel
theorem dX4_settleRings_45 : decode cX4_settleRings 45 = .ok (.iaload, 1) := by decide +kernel
theorem dX4_settleRings_46 : decode cX4_settleRings 46 = .ok (.aload_n 0, 1) := by decide +kernel
theorem dX4_settleRings_47 : decode cX4_settleRings 47 = .ok (.getfield 21, 3) := by decide +kernel
theorem dX4_settleRings_50 : decode cX4_settleRings 50 = .ok (.getfield 66, 3) := by decide +kernel
theorem dX4_settleRings_53 : decode cX4_settleRings 53 = .ok (.invokevirtual 69, 3) := by decide +kernel
theorem dX4_settleRings_56 : decode cX4_settleRings 56 = .ok (.iinc 3 1, 3) := by decide +kernel
theorem dX4_settleRings_59 : decode cX4_settleRings 59 = .ok (.goto (-34), 3) := by decide +kernel
theorem dX4_settleRings_62 : decode cX4_settleRings 62 = .ok (.iinc 2 1, 3) := by decide +kernel
theorem dX4_settleRings_65 : decode cX4_settleRings 65 = .ok (.goto (-63), 3) := by decide +kernel
theorem dX4_settleRings_68 : decode cX4_settleRings 68 = .ok (.return_, 1) := by decide +kernel
theorem dX4_deliverAll_0 : decode cX4_deliverAll 0 = .ok (.iconst 0, 1) := by decide +kernel
theorem dX4_deliverAll_1 : decode cX4_deliverAll 1 = .ok (.istore_n 2, 1) := by decide +kernel
theorem dX4_deliverAll_2 : decode cX4_deliverAll 2 = .ok (.iconst 0, 1) := by decide +kernel
theorem dX4_deliverAll_3 : decode cX4_deliverAll 3 = .ok (.istore_n 3, 1) := by decide +kernel
theorem dX4_deliverAll_4 : decode cX4_deliverAll 4 = .ok (.iload_n 3, 1) := by decide +kernel
theorem dX4_deliverAll_5 : decode cX4_deliverAll 5 = .ok (.aload_n 0, 1) := by decide +kernel
theorem dX4_deliverAll_6 : decode cX4_deliverAll 6 = .ok (.getfield 12, 3) := by decide +kernel
theorem dX4_deliverAll_9 : decode cX4_deliverAll 9 = .ok (.getfield 73, 3) := by decide +kernel
theorem dX4_deliverAll_12 : decode cX4_deliverAll 12 = .ok (.if_icmp .ge 56, 3) := by decide +kernel
theorem dX4_deliverAll_15 : decode cX4_deliverAll 15 = .ok (.aload_n 0, 1) := by decide +kernel
theorem dX4_deliverAll_16 : decode cX4_deliverAll 16 = .ok (.getfield 12, 3) := by decide +kernel
theorem dX4_deliverAll_19 : decode cX4_deliverAll 19 = .ok (.getfield 74, 3) := by decide +kernel
theorem dX4_deliverAll_22 : decode cX4_deliverAll 22 = .ok (.iload_n 3, 1) := by decide +kernel
theorem dX4_deliverAll_23 : decode cX4_deliverAll 23 = .ok (.iaload, 1) := by decide +kernel
theorem dX4_deliverAll_24 : decode cX4_deliverAll 24 = .ok (.istore 4, 2) := by decide +kernel
theorem dX4_deliverAll_26 : decode cX4_deliverAll 26 = .ok (.aload_n 1, 1) := by decide +kernel
theorem dX4_deliverAll_27 : decode cX4_deliverAll 27 = .ok (.iload 4, 2) := by decide +kernel
theorem dX4_deliverAll_29 : decode cX4_deliverAll 29 = .ok (.invokevirtual 77, 3) := by decide +kernel
theorem dX4_deliverAll_32 : decode cX4_deliverAll 32 = .ok (.ifCond .eq 12, 3) := by decide +kernel
theorem dX4_deliverAll_35 : decode cX4_deliverAll 35 = .ok (.aload_n 1, 1) := by decide +kernel
theorem dX4_deliverAll_36 : decode cX4_deliverAll 36 = .ok (.iload 4, 2) := by decide +kernel
theorem dX4_deliverAll_38 : decode cX4_deliverAll 38 = .ok (.invokevirtual 81, 3) := by decide +kernel
theorem dX4_deliverAll_41 : decode cX4_deliverAll 41 = .ok (.goto 4, 3) := by decide +kernel
theorem dX4_deliverAll_44 : decode cX4_deliverAll 44 = .ok (.iconst 0, 1) := by decide +kernel
theorem dX4_deliverAll_45 : decode cX4_deliverAll 45 = .ok (.istore 5, 2) := by decide +kernel
theorem dX4_deliverAll_47 : decode cX4_deliverAll 47 = .ok (.iload 5, 2) := by decide +kernel
theorem dX4_deliverAll_49 : decode cX4_deliverAll 49 = .ok (.ifCond .le 13, 3) := by decide +kernel
theorem dX4_deliverAll_52 : decode cX4_deliverAll 52 = .ok (.aload_n 1, 1) := by decide +kernel
theorem dX4_deliverAll_53 : decode cX4_deliverAll 53 = .ok (.iload 4, 2) := by decide +kernel
theorem dX4_deliverAll_55 : decode cX4_deliverAll 55 = .ok (.iload 5, 2) := by decide +kernel
theorem dX4_deliverAll_57 : decode cX4_deliverAll 57 = .ok (.invokevirtual 85, 3) := by decide +kernel
theorem dX4_deliverAll_60 : decode cX4_deliverAll 60 = .ok (.iconst 1, 1) := by decide +kernel
theorem dX4_deliverAll_61 : decode cX4_deliverAll 61 = .ok (.istore_n 2, 1) := by decide +kernel
theorem dX4_deliverAll_62 : decode cX4_deliverAll 62 = .ok (.iinc 3 1, 3) := by decide +kernel
theorem dX4_deliverAll_65 : decode cX4_deliverAll 65 = .ok (.goto (-61), 3) := by decide +kernel
theorem dX4_deliverAll_68 : decode cX4_deliverAll 68 = .ok (.iload_n 2, 1) := by decide +kernel
theorem dX4_deliverAll_69 : decode cX4_deliverAll 69 = .ok (.ireturn, 1) := by decide +kernel
theorem dX4_payPenalties_0 : decode cX4_payPenalties 0 = .ok (.aload_n 0, 1) := by decide +kernel
theorem dX4_payPenalties_1 : decode cX4_payPenalties 1 = .ok (.aload_n 1, 1) := by decide +kernel
theorem dX4_payPenalties_2 : decode cX4_payPenalties 2 = .ok (.invokevirtual 88, 3) := by decide +kernel
theorem dX4_payPenalties_5 : decode cX4_payPenalties 5 = .ok (.putfield 92, 3) := by decide +kernel
theorem dX4_payPenalties_8 : decode cX4_payPenalties 8 = .ok (.aload_n 0, 1) := by decide +kernel
theorem dX4_payPenalties_9 : decode cX4_payPenalties 9 = .ok (.aload_n 1, 1) := by decide +kernel
theorem dX4_payPenalties_10 : decode cX4_payPenalties 10 = .ok (.iconst (-1), 1) := by decide +kernel
theorem dX4_payPenalties_11 : decode cX4_payPenalties 11 = .ok (.iconst (-1), 1) := by decide +kernel
theorem dX4_payPenalties_12 : decode cX4_payPenalties 12 = .ok (.invokevirtual 95, 3) := by decide +kernel
theorem dX4_payPenalties_15 : decode cX4_payPenalties 15 = .ok (.putfield 99, 3) := by decide +kernel
theorem dX4_payPenalties_18 : decode cX4_payPenalties 18 = .ok (.aload_n 0, 1) := by decide +kernel
theorem dX4_payPenalties_19 : decode cX4_payPenalties 19 = .ok (.lconst 0, 1) := by decide +kernel
theorem dX4_payPenalties_20 : decode cX4_payPenalties 20 = .ok (.putfield 102, 3) := by decide +kernel
theorem dX4_payPenalties_23 : decode cX4_payPenalties 23 = .ok (.iconst 0, 1) := by decide +kernel
theorem dX4_payPenalties_24 : decode cX4_payPenalties 24 = .ok (.istore_n 2, 1) := by decide +kernel
theorem dX4_payPenalties_25 : decode cX4_payPenalties 25 = .ok (.iload_n 2, 1) := by decide +kernel
theorem dX4_payPenalties_26 : decode cX4_payPenalties 26 = .ok (.aload_n 1, 1) := by decide +kernel
theorem dX4_payPenalties_27 : decode cX4_payPenalties 27 = .ok (.getfield 106, 3) := by decide +kernel
theorem dX4_payPenalties_30 : decode cX4_payPenalties 30 = .ok (.if_icmp .ge 39, 3) := by decide +kernel
theorem dX4_payPenalties_33 : decode cX4_payPenalties 33 = .ok (.aload_n 1, 1) := by decide +kernel
theorem dX4_payPenalties_34 : decode cX4_payPenalties 34 = .ok (.iload_n 2, 1) := by decide +kernel
theorem dX4_payPenalties_35 : decode cX4_payPenalties 35 = .ok (.invokevirtual 77, 3) := by decide +kernel
theorem dX4_payPenalties_38 : decode cX4_payPenalties 38 = .ok (.ifCond .eq 25, 3) := by decide +kernel
theorem dX4_payPenalties_41 : decode cX4_payPenalties 41 = .ok (.aload_n 1, 1) := by decide +kernel
theorem dX4_payPenalties_42 : decode cX4_payPenalties 42 = .ok (.iload_n 2, 1) := by decide +kernel
theorem dX4_payPenalties_43 : decode cX4_payPenalties 43 = .ok (.invokevirtual 109, 3) := by decide +kernel
theorem dX4_payPenalties_46 : decode cX4_payPenalties 46 = .ok (.lstore_n 3, 1) := by decide +kernel
theorem dX4_payPenalties_47 : decode cX4_payPenalties 47 = .ok (.aload_n 0, 1) := by decide +kernel
theorem dX4_payPenalties_48 : decode cX4_payPenalties 48 = .ok (.dup, 1) := by decide +kernel
theorem dX4_payPenalties_49 : decode cX4_payPenalties 49 = .ok (.getfield 102, 3) := by decide +kernel
theorem dX4_payPenalties_52 : decode cX4_payPenalties 52 = .ok (.lload_n 3, 1) := by decide +kernel
theorem dX4_payPenalties_53 : decode cX4_payPenalties 53 = .ok (.ladd, 1) := by decide +kernel
theorem dX4_payPenalties_54 : decode cX4_payPenalties 54 = .ok (.putfield 102, 3) := by decide +kernel
theorem dX4_payPenalties_57 : decode cX4_payPenalties 57 = .ok (.aload_n 1, 1) := by decide +kernel
theorem dX4_payPenalties_58 : decode cX4_payPenalties 58 = .ok (.iload_n 2, 1) := by decide +kernel
theorem dX4_payPenalties_59 : decode cX4_payPenalties 59 = .ok (.lload_n 3, 1) := by decide +kernel
theorem dX4_payPenalties_60 : decode cX4_payPenalties 60 = .ok (.invokevirtual 113, 3) := by decide +kernel
theorem dX4_payPenalties_63 : decode cX4_payPenalties 63 = .ok (.iinc 2 1, 3) := by decide +kernel
theorem dX4_payPenalties_66 : decode cX4_payPenalties 66 = .ok (.goto (-41), 3) := by decide +kernel
theorem dX4_payPenalties_69 : decode cX4_payPenalties 69 = .ok (.return_, 1) := by decide +kernel
theorem dX4_buyInLate_0 : decode cX4_buyInLate 0 = .ok (.iconst 0, 1) := by decide +kernel
theorem dX4_buyInLate_1 : decode cX4_buyInLate 1 = .ok (.istore_n 2, 1) := by decide +kernel
theorem dX4_buyInLate_2 : decode cX4_buyInLate 2 = .ok (.iload_n 2, 1) := by decide +kernel
theorem dX4_buyInLate_3 : decode cX4_buyInLate 3 = .ok (.aload_n 0, 1) := by decide +kernel
theorem dX4_buyInLate_4 : decode cX4_buyInLate 4 = .ok (.getfield 12, 3) := by decide +kernel
theorem dX4_buyInLate_7 : decode cX4_buyInLate 7 = .ok (.getfield 73, 3) := by decide +kernel
theorem dX4_buyInLate_10 : decode cX4_buyInLate 10 = .ok (.if_icmp .ge 98, 3) := by decide +kernel
theorem dX4_buyInLate_13 : decode cX4_buyInLate 13 = .ok (.aload_n 0, 1) := by decide +kernel
theorem dX4_buyInLate_14 : decode cX4_buyInLate 14 = .ok (.getfield 12, 3) := by decide +kernel
theorem dX4_buyInLate_17 : decode cX4_buyInLate 17 = .ok (.getfield 74, 3) := by decide +kernel
theorem dX4_buyInLate_20 : decode cX4_buyInLate 20 = .ok (.iload_n 2, 1) := by decide +kernel
theorem dX4_buyInLate_21 : decode cX4_buyInLate 21 = .ok (.iaload, 1) := by decide +kernel
theorem dX4_buyInLate_22 : decode cX4_buyInLate 22 = .ok (.istore_n 3, 1) := by decide +kernel
theorem dX4_buyInLate_23 : decode cX4_buyInLate 23 = .ok (.aload_n 1, 1) := by decide +kernel
theorem dX4_buyInLate_24 : decode cX4_buyInLate 24 = .ok (.getfield 49, 3) := by decide +kernel
theorem dX4_buyInLate_27 : decode cX4_buyInLate 27 = .ok (.aload_n 1, 1) := by decide +kernel
theorem dX4_buyInLate_28 : decode cX4_buyInLate 28 = .ok (.getfield 117, 3) := by decide +kernel
theorem dX4_buyInLate_31 : decode cX4_buyInLate 31 = .ok (.iload_n 3, 1) := by decide +kernel
theorem dX4_buyInLate_32 : decode cX4_buyInLate 32 = .ok (.aaload, 1) := by decide +kernel
theorem dX4_buyInLate_33 : decode cX4_buyInLate 33 = .ok (.getfield 121, 3) := by decide +kernel
theorem dX4_buyInLate_36 : decode cX4_buyInLate 36 = .ok (.isub, 1) := by decide +kernel
theorem dX4_buyInLate_37 : decode cX4_buyInLate 37 = .ok (.aload_n 1, 1) := by decide +kernel
theorem dX4_buyInLate_38 : decode cX4_buyInLate 38 = .ok (.getfield 126, 3) := by decide +kernel
theorem dX4_buyInLate_41 : decode cX4_buyInLate 41 = .ok (.if_icmp .lt 7, 3) := by decide +kernel
theorem dX4_buyInLate_44 : decode cX4_buyInLate 44 = .ok (.iconst 1, 1) := by decide +kernel
theorem dX4_buyInLate_45 : decode cX4_buyInLate 45 = .ok (.goto 4, 3) := by decide +kernel
theorem dX4_buyInLate_48 : decode cX4_buyInLate 48 = .ok (.iconst 0, 1) := by decide +kernel
theorem dX4_buyInLate_49 : decode cX4_buyInLate 49 = .ok (.istore 4, 2) := by decide +kernel
theorem dX4_buyInLate_51 : decode cX4_buyInLate 51 = .ok (.iload 4, 2) := by decide +kernel
theorem dX4_buyInLate_53 : decode cX4_buyInLate 53 = .ok (.ifCond .eq 49, 3) := by decide +kernel
theorem dX4_buyInLate_56 : decode cX4_buyInLate 56 = .ok (.aload_n 1, 1) := by decide +kernel
theorem dX4_buyInLate_57 : decode cX4_buyInLate 57 = .ok (.iload_n 3, 1) := by decide +kernel
theorem dX4_buyInLate_58 : decode cX4_buyInLate 58 = .ok (.invokevirtual 77, 3) := by decide +kernel
theorem dX4_buyInLate_61 : decode cX4_buyInLate 61 = .ok (.ifCond .eq 41, 3) := by decide +kernel
theorem dX4_buyInLate_64 : decode cX4_buyInLate 64 = .ok (.aload_n 1, 1) := by decide +kernel
theorem dX4_buyInLate_65 : decode cX4_buyInLate 65 = .ok (.aload_n 1, 1) := by decide +kernel
theorem dX4_buyInLate_66 : decode cX4_buyInLate 66 = .ok (.getfield 117, 3) := by decide +kernel
theorem dX4_buyInLate_69 : decode cX4_buyInLate 69 = .ok (.iload_n 3, 1) := by decide +kernel
theorem dX4_buyInLate_70 : decode cX4_buyInLate 70 = .ok (.aaload, 1) := by decide +kernel
theorem dX4_buyInLate_71 : decode cX4_buyInLate 71 = .ok (.getfield 129, 3) := by decide +kernel
theorem dX4_buyInLate_74 : decode cX4_buyInLate 74 = .ok (.invokevirtual 132, 3) := by decide +kernel
theorem dX4_buyInLate_77 : decode cX4_buyInLate 77 = .ok (.ifCond .ne 25, 3) := by decide +kernel
theorem dX4_buyInLate_80 : decode cX4_buyInLate 80 = .ok (.aload_n 0, 1) := by decide +kernel
theorem dX4_buyInLate_81 : decode cX4_buyInLate 81 = .ok (.getfield 28, 3) := by decide +kernel
theorem dX4_buyInLate_84 : decode cX4_buyInLate 84 = .ok (.aload_n 1, 1) := by decide +kernel
theorem dX4_buyInLate_85 : decode cX4_buyInLate 85 = .ok (.aload_n 0, 1) := by decide +kernel
theorem dX4_buyInLate_86 : decode cX4_buyInLate 86 = .ok (.getfield 12, 3) := by decide +kernel
theorem dX4_buyInLate_89 : decode cX4_buyInLate 89 = .ok (.iload_n 3, 1) := by decide +kernel
theorem dX4_buyInLate_90 : decode cX4_buyInLate 90 = .ok (.aload_n 1, 1) := by decide +kernel
theorem dX4_buyInLate_91 : decode cX4_buyInLate 91 = .ok (.getfield 117, 3) := by decide +kernel
theorem dX4_buyInLate_94 : decode cX4_buyInLate 94 = .ok (.iload_n 3, 1) := by decide +kernel
theorem dX4_buyInLate_95 : decode cX4_buyInLate 95 = .ok (.aaload, 1) := by decide +kernel
theorem dX4_buyInLate_96 : decode cX4_buyInLate 96 = .ok (.getfield 135, 3) := by decide +kernel
theorem dX4_buyInLate_99 : decode cX4_buyInLate 99 = .ok (.invokevirtual 138, 3) := by decide +kernel
theorem dX4_buyInLate_102 : decode cX4_buyInLate 102 = .ok (.iinc 2 1, 3) := by decide +kernel
theorem dX4_buyInLate_105 : decode cX4_buyInLate 105 = .ok (.goto (-103), 3) := by decide +kernel
theorem dX4_buyInLate_108 : decode cX4_buyInLate 108 = .ok (.return_, 1) := by decide +kernel
theorem dX5_init_0 : decode cX5_init 0 = .ok (.aload_n 0, 1) := by decide +kernel
theorem dX5_init_1 : decode cX5_init 1 = .ok (.invokespecial 3, 3) := by decide +kernel
theorem dX5_init_4 : decode cX5_init 4 = .ok (.aload_n 0, 1) := by decide +kernel
theorem dX5_init_5 : decode cX5_init 5 = .ok (.bipush 24, 2) := by decide +kernel
theorem dX5_init_7 : decode cX5_init 7 = .ok (.newarray .int, 2) := by decide +kernel
theorem dX5_init_9 : decode cX5_init 9 = .ok (.putfield 9, 3) := by decide +kernel
theorem dX5_init_12 : decode cX5_init 12 = .ok (.aload_n 0, 1) := by decide +kernel
theorem dX5_init_13 : decode cX5_init 13 = .ok (.bipush 24, 2) := by decide +kernel
theorem dX5_init_15 : decode cX5_init 15 = .ok (.newarray .long, 2) := by decide +kernel
theorem dX5_init_17 : decode cX5_init 17 = .ok (.putfield 15, 3) := by decide +kernel
theorem dX5_init_20 : decode cX5_init 20 = .ok (.aload_n 0, 1) := by decide +kernel
theorem dX5_init_21 : decode cX5_init 21 = .ok (.bipush 16, 2) := by decide +kernel
theorem dX5_init_23 : decode cX5_init 23 = .ok (.newarray .long, 2) := by decide +kernel
theorem dX5_init_25 : decode cX5_init 25 = .ok (.putfield 19, 3) := by decide +kernel
theorem dX5_init_28 : decode cX5_init 28 = .ok (.return_, 1) := by decide +kernel
theorem dX5_arrange_0 : decode cX5_arrange 0 = .ok (.aload_n 0, 1) := by decide +kernel
theorem dX5_arrange_1 : decode cX5_arrange 1 = .ok (.aload_n 1, 1) := by decide +kernel
theorem dX5_arrange_2 : decode cX5_arrange 2 = .ok (.getfield 22, 3) := by decide +kernel
theorem dX5_arrange_5 : decode cX5_arrange 5 = .ok (.putfield 28, 3) := by decide +kernel
theorem dX5_arrange_8 : decode cX5_arrange 8 = .ok (.iconst 0, 1) := by decide +kernel
theorem dX5_arrange_9 : decode cX5_arrange 9 = .ok (.istore_n 2, 1) := by decide +kernel
theorem dX5_arrange_10 : decode cX5_arrange 10 = .ok (.iload_n 2, 1) := by decide +kernel
theorem dX5_arrange_11 : decode cX5_arrange 11 = .ok (.aload_n 0, 1) := by decide +kernel
theorem dX5_arrange_12 : decode cX5_arrange 12 = .ok (.getfield 28, 3) := by decide +kernel
theorem dX5_arrange_15 : decode cX5_arrange 15 = .ok (.if_icmp .ge 31, 3) := by decide +kernel
theorem dX5_arrange_18 : decode cX5_arrange 18 = .ok (.aload_n 0, 1) := by decide +kernel
theorem dX5_arrange_19 : decode cX5_arrange 19 = .ok (.getfield 15, 3) := by decide +kernel
theorem dX5_arrange_22 : decode cX5_arrange 22 = .ok (.iload_n 2, 1) := by decide +kernel
theorem dX5_arrange_23 : decode cX5_arrange 23 = .ok (.aload_n 0, 1) := by decide +kernel
theorem dX5_arrange_24 : decode cX5_arrange 24 = .ok (.aload_n 1, 1) := by decide +kernel
theorem dX5_arrange_25 : decode cX5_arrange 25 = .ok (.aload_n 1, 1) := by decide +kernel
theorem dX5_arrange_26 : decode cX5_arrange 26 = .ok (.getfield 31, 3) := by decide +kernel
theorem dX5_arrange_29 : decode cX5_arrange 29 = .ok (.iload_n 2, 1) := by decide +kernel
theorem dX5_arrange_30 : decode cX5_arrange 30 = .ok (.aaload, 1) := by decide +kernel
theorem dX5_arrange_31 : decode cX5_arrange 31 = .ok (.invokevirtual 35, 3) := by decide +kernel
theorem dX5_arrange_34 : decode cX5_arrange 34 = .ok (.lastore, 1) := by decide +kernel
theorem dX5_arrange_35 : decode cX5_arrange 35 = .ok (.aload_n 0, 1) := by decide +kernel
theorem dX5_arrange_36 : decode cX5_arrange 36 = .ok (.iload_n 2, 1) := by decide +kernel
theorem dX5_arrange_37 : decode cX5_arrange 37 = .ok (.invokevirtual 39, 3) := by decide +kernel
theorem dX5_arrange_40 : decode cX5_arrange 40 = .ok (.iinc 2 1, 3) := by decide +kernel
theorem dX5_arrange_43 : decode cX5_arrange 43 = .ok (.goto (-33), 3) := by decide +kernel
theorem dX5_arrange_46 : decode cX5_arrange 46 = .ok (.return_, 1) := by decide +kernel
theorem dX5_insert_0 : decode cX5_insert 0 = .ok (.iload_n 1, 1) := by decide +kernel
theorem dX5_insert_1 : decode cX5_insert 1 = .ok (.istore_n 2, 1) := by decide +kernel
theorem dX5_insert_2 : decode cX5_insert 2 = .ok (.iload_n 1, 1) := by decide +kernel
theorem dX5_insert_3 : decode cX5_insert 3 = .ok (.iconst 1, 1) := by decide +kernel
theorem dX5_insert_4 : decode cX5_insert 4 = .ok (.isub, 1) := by decide +kernel
theorem dX5_insert_5 : decode cX5_insert 5 = .ok (.istore_n 3, 1) := by decide +kernel
theorem dX5_insert_6 : decode cX5_insert 6 = .ok (.iload_n 3, 1) := by decide +kernel
theorem dX5_insert_7 : decode cX5_insert 7 = .ok (.ifCond .lt 46, 3) := by decide +kernel
theorem dX5_insert_10 : decode cX5_insert 10 = .ok (.aload_n 0, 1) := by decide +kernel
theorem dX5_insert_11 : decode cX5_insert 11 = .ok (.getfield 15, 3) := by decide +kernel
theorem dX5_insert_14 : decode cX5_insert 14 = .ok (.aload_n 0, 1) := by decide +kernel
theorem dX5_insert_15 : decode cX5_insert 15 = .ok (.getfield 9, 3) := by decide +kernel
theorem dX5_insert_18 : decode cX5_insert 18 = .ok (.iload_n 3, 1) := by decide +kernel
theorem dX5_insert_19 : decode cX5_insert 19 = .ok (.iaload, 1) := by decide +kernel
theorem dX5_insert_20 : decode cX5_insert 20 = .ok (.laload, 1) := by decide +kernel
theorem dX5_insert_21 : decode cX5_insert 21 = .ok (.aload_n 0, 1) := by decide +kernel
theorem dX5_insert_22 : decode cX5_insert 22 = .ok (.getfield 15, 3) := by decide +kernel
theorem dX5_insert_25 : decode cX5_insert 25 = .ok (.iload_n 1, 1) := by decide +kernel
theorem dX5_insert_26 : decode cX5_insert 26 = .ok (.laload, 1) := by decide +kernel
theorem dX5_insert_27 : decode cX5_insert 27 = .ok (.lcmp, 1) := by decide +kernel
theorem dX5_insert_28 : decode cX5_insert 28 = .ok (.ifCond .ge 25, 3) := by decide +kernel
theorem dX5_insert_31 : decode cX5_insert 31 = .ok (.aload_n 0, 1) := by decide +kernel
theorem dX5_insert_32 : decode cX5_insert 32 = .ok (.getfield 9, 3) := by decide +kernel
theorem dX5_insert_35 : decode cX5_insert 35 = .ok (.iload_n 3, 1) := by decide +kernel
theorem dX5_insert_36 : decode cX5_insert 36 = .ok (.iconst 1, 1) := by decide +kernel
theorem dX5_insert_37 : decode cX5_insert 37 = .ok (.iadd, 1) := by decide +kernel
theorem dX5_insert_38 : decode cX5_insert 38 = .ok (.aload_n 0, 1) := by decide +kernel
theorem dX5_insert_39 : decode cX5_insert 39 = .ok (.getfield 9, 3) := by decide +kernel
theorem dX5_insert_42 : decode cX5_insert 42 = .ok (.iload_n 3, 1) := by decide +kernel
theorem dX5_insert_43 : decode cX5_insert 43 = .ok (.iaload, 1) := by decide +kernel
theorem dX5_insert_44 : decode cX5_insert 44 = .ok (.iastore, 1) := by decide +kernel
theorem dX5_insert_45 : decode cX5_insert 45 = .ok (.iload_n 3, 1) := by decide +kernel
theorem dX5_insert_46 : decode cX5_insert 46 = .ok (.istore_n 2, 1) := by decide +kernel
theorem dX5_insert_47 : decode cX5_insert 47 = .ok (.iinc 3 (-1), 3) := by decide +kernel
theorem dX5_insert_50 : decode cX5_insert 50 = .ok (.goto (-44), 3) := by decide +kernel
theorem dX5_insert_53 : decode cX5_insert 53 = .ok (.aload_n 0, 1) := by decide +kernel
theorem dX5_insert_54 : decode cX5_insert 54 = .ok (.getfield 9, 3) := by decide +kernel
theorem dX5_insert_57 : decode cX5_insert 57 = .ok (.iload_n 2, 1) := by decide +kernel
theorem dX5_insert_58 : decode cX5_insert 58 = .ok (.iload_n 1, 1) := by decide +kernel
theorem dX5_insert_59 : decode cX5_insert 59 = .ok (.iastore, 1) := by decide +kernel
theorem dX5_insert_60 : decode cX5_insert 60 = .ok (.return_, 1) := by decide +kernel
theorem dX5_placeOf_0 : decode cX5_placeOf 0 = .ok (.iconst 0, 1) := by decide +kernel
theorem dX5_placeOf_1 : decode cX5_placeOf 1 = .ok (.istore_n 2, 1) := by decide +kernel
theorem dX5_placeOf_2 : decode cX5_placeOf 2 = .ok (.iload_n 2, 1) := by decide +kernel
theorem dX5_placeOf_3 : decode cX5_placeOf 3 = .ok (.aload_n 0, 1) := by decide +kernel
theorem dX5_placeOf_4 : decode cX5_placeOf 4 = .ok (.getfield 28, 3) := by decide +kernel
theorem dX5_placeOf_7 : decode cX5_placeOf 7 = .ok (.if_icmp .ge 21, 3) := by decide +kernel
theorem dX5_placeOf_10 : decode cX5_placeOf 10 = .ok (.aload_n 0, 1) := by decide +kernel
theorem dX5_placeOf_11 : decode cX5_placeOf 11 = .ok (.getfield 9, 3) := by decide +kernel
theorem dX5_placeOf_14 : decode cX5_placeOf 14 = .ok (.iload_n 2, 1) := by decide +kernel
theorem dX5_placeOf_15 : decode cX5_placeOf 15 = .ok (.iaload, 1) := by decide +kernel
theorem dX5_placeOf_16 : decode cX5_placeOf 16 = .ok (.iload_n 1, 1) := by decide +kernel
theorem dX5_placeOf_17 : decode cX5_placeOf 17 = .ok (.if_icmp .ne 5, 3) := by decide +kernel
theorem dX5_placeOf_20 : decode cX5_placeOf 20 = .ok (.iload_n 2, 1) := by decide +kernel
theorem dX5_placeOf_21 : decode cX5_placeOf 21 = .ok (.ireturn, 1) := by decide +kernel
theorem dX5_placeOf_22 : decode cX5_placeOf 22 = .ok (.iinc 2 1, 3) := by decide +kernel
theorem dX5_placeOf_25 : decode cX5_placeOf 25 = .ok (.goto (-23), 3) := by decide +kernel
theorem dX5_placeOf_28 : decode cX5_placeOf 28 = .ok (.iconst (-1), 1) := by decide +kernel
theorem dX5_placeOf_29 : decode cX5_placeOf 29 = .ok (.ireturn, 1) := by decide +kernel
theorem dX5_worthOf_0 : decode cX5_worthOf 0 = .ok (.iconst 0, 1) := by decide +kernel
theorem dX5_worthOf_1 : decode cX5_worthOf 1 = .ok (.istore_n 3, 1) := by decide +kernel
theorem dX5_worthOf_2 : decode cX5_worthOf 2 = .ok (.iconst 0, 1) := by decide +kernel
theorem dX5_worthOf_3 : decode cX5_worthOf 3 = .ok (.istore 4, 2) := by decide +kernel
theorem dX5_worthOf_5 : decode cX5_worthOf 5 = .ok (.iload 4, 2) := by decide +kernel
theorem dX5_worthOf_7 : decode cX5_worthOf 7 = .ok (.aload_n 1, 1) := by decide +kernel
theorem dX5_worthOf_8 : decode cX5_worthOf 8 = .ok (.getfield 43, 3) := by decide +kernel
theorem dX5_worthOf_11 : decode cX5_worthOf 11 = .ok (.arraylength, 1) := by decide +kernel
theorem dX5_worthOf_12 : decode cX5_worthOf 12 = .ok (.if_icmp .ge 116, 3) := by decide +kernel
theorem dX5_worthOf_15 : decode cX5_worthOf 15 = .ok (.aload_n 1, 1) := by decide +kernel
theorem dX5_worthOf_16 : decode cX5_worthOf 16 = .ok (.getfield 43, 3) := by decide +kernel
theorem dX5_worthOf_19 : decode cX5_worthOf 19 = .ok (.iload 4, 2) := by decide +kernel
theorem dX5_worthOf_21 : decode cX5_worthOf 21 = .ok (.iaload, 1) := by decide +kernel
theorem dX5_worthOf_22 : decode cX5_worthOf 22 = .ok (.istore 5, 2) := by decide +kernel
theorem dX5_worthOf_24 : decode cX5_worthOf 24 = .ok (.iload 5, 2) := by decide +kernel
theorem dX5_worthOf_26 : decode cX5_worthOf 26 = .ok (.bipush (-8), 2) := by decide +kernel
theorem dX5_worthOf_28 : decode cX5_worthOf 28 = .ok (.if_icmp .le 28, 3) := by decide +kernel
theorem dX5_worthOf_31 : decode cX5_worthOf 31 = .ok (.iload_n 3, 1) := by decide +kernel
theorem dX5_worthOf_32 : decode cX5_worthOf 32 = .ok (.bipush 16, 2) := by decide +kernel
theorem dX5_worthOf_34 : decode cX5_worthOf 34 = .ok (.if_icmp .ge 88, 3) := by decide +kernel
theorem dX5_worthOf_37 : decode cX5_worthOf 37 = .ok (.aload_n 0, 1) := by decide +kernel
theorem dX5_worthOf_38 : decode cX5_worthOf 38 = .ok (.getfield 19, 3) := by decide +kernel
theorem dX5_worthOf_41 : decode cX5_worthOf 41 = .ok (.iload_n 3, 1) := by decide +kernel
theorem dX5_worthOf_42 : decode cX5_worthOf 42 = .ok (.iload 5, 2) := by decide +kernel
theorem dX5_worthOf_44 : decode cX5_worthOf 44 = .ok (.aload_n 1, 1) := by decide +kernel
theorem dX5_worthOf_45 : decode cX5_worthOf 45 = .ok (.aload_n 2, 1) := by decide +kernel
theorem dX5_worthOf_46 : decode cX5_worthOf 46 = .ok (.invokestatic 46, 3) := by decide +kernel
theorem dX5_worthOf_49 : decode cX5_worthOf 49 = .ok (.lastore, 1) := by decide +kernel
theorem dX5_worthOf_50 : decode cX5_worthOf 50 = .ok (.iinc 3 1, 3) := by decide +kernel
theorem dX5_worthOf_53 : decode cX5_worthOf 53 = .ok (.goto 69, 3) := by decide +kernel
theorem dX5_worthOf_56 : decode cX5_worthOf 56 = .ok (.iload 5, 2) := by decide +kernel
theorem dX5_worthOf_58 : decode cX5_worthOf 58 = .ok (.bipush (-8), 2) := by decide +kernel
theorem dX5_worthOf_60 : decode cX5_worthOf 60 = .ok (.if_icmp .ne 27, 3) := by decide +kernel
theorem dX5_worthOf_63 : decode cX5_worthOf 63 = .ok (.iload_n 3, 1) := by decide +kernel
theorem dX5_worthOf_64 : decode cX5_worthOf 64 = .ok (.ifCond .le 58, 3) := by decide +kernel
theorem dX5_worthOf_67 : decode cX5_worthOf 67 = .ok (.aload_n 0, 1) := by decide +kernel
theorem dX5_worthOf_68 : decode cX5_worthOf 68 = .ok (.getfield 19, 3) := by decide +kernel
theorem dX5_worthOf_71 : decode cX5_worthOf 71 = .ok (.iload_n 3, 1) := by decide +kernel
theorem dX5_worthOf_72 : decode cX5_worthOf 72 = .ok (.iconst 1, 1) := by decide +kernel
theorem dX5_worthOf_73 : decode cX5_worthOf 73 = .ok (.isub, 1) := by decide +kernel
theorem dX5_worthOf_74 : decode cX5_worthOf 74 = .ok (.aload_n 0, 1) := by decide +kernel
theorem dX5_worthOf_75 : decode cX5_worthOf 75 = .ok (.getfield 19, 3) := by decide +kernel
theorem dX5_worthOf_78 : decode cX5_worthOf 78 = .ok (.iload_n 3, 1) := by decide +kernel
theorem dX5_worthOf_79 : decode cX5_worthOf 79 = .ok (.iconst 1, 1) := by decide +kernel
theorem dX5_worthOf_80 : decode cX5_worthOf 80 = .ok (.isub, 1) := by decide +kernel
theorem dX5_worthOf_81 : decode cX5_worthOf 81 = .ok (.laload, 1) := by decide +kernel
theorem dX5_worthOf_82 : decode cX5_worthOf 82 = .ok (.lneg, 1) := by decide +kernel
theorem dX5_worthOf_83 : decode cX5_worthOf 83 = .ok (.lastore, 1) := by decide +kernel
theorem dX5_worthOf_84 : decode cX5_worthOf 84 = .ok (.goto 38, 3) := by decide +kernel
theorem dX5_worthOf_87 : decode cX5_worthOf 87 = .ok (.iload_n 3, 1) := by decide +kernel
theorem dX5_worthOf_88 : decode cX5_worthOf 88 = .ok (.iconst 1, 1) := by decide +kernel
theorem dX5_worthOf_89 : decode cX5_worthOf 89 = .ok (.if_icmp .le 33, 3) := by decide +kernel
theorem dX5_worthOf_92 : decode cX5_worthOf 92 = .ok (.iinc 3 (-1), 3) := by decide +kernel
theorem dX5_worthOf_95 : decode cX5_worthOf 95 = .ok (.aload_n 0, 1) := by decide +kernel
theorem dX5_worthOf_96 : decode cX5_worthOf 96 = .ok (.getfield 19, 3) := by decide +kernel
theorem dX5_worthOf_99 : decode cX5_worthOf 99 = .ok (.iload_n 3, 1) := by decide +kernel
theorem dX5_worthOf_100 : decode cX5_worthOf 100 = .ok (.iconst 1, 1) := by decide +kernel
theorem dX5_worthOf_101 : decode cX5_worthOf 101 = .ok (.isub, 1) := by decide +kernel
theorem dX5_worthOf_102 : decode cX5_worthOf 102 = .ok (.iload 5, 2) := by decide +kernel
theorem dX5_worthOf_104 : decode cX5_worthOf 104 = .ok (.aload_n 0, 1) := by decide +kernel
theorem dX5_worthOf_105 : decode cX5_worthOf 105 = .ok (.getfield 19, 3) := by decide +kernel
theorem dX5_worthOf_108 : decode cX5_worthOf 108 = .ok (.iload_n 3, 1) := by decide +kernel
theorem dX5_worthOf_109 : decode cX5_worthOf 109 = .ok (.iconst 1, 1) := by decide +kernel
theorem dX5_worthOf_110 : decode cX5_worthOf 110 = .ok (.isub, 1) := by decide +kernel
theorem dX5_worthOf_111 : decode cX5_worthOf 111 = .ok (.laload, 1) := by decide +kernel
theorem dX5_worthOf_112 : decode cX5_worthOf 112 = .ok (.aload_n 0, 1) := by decide +kernel
theorem dX5_worthOf_113 : decode cX5_worthOf 113 = .ok (.getfield 19, 3) := by decide +kernel
theorem dX5_worthOf_116 : decode cX5_worthOf 116 = .ok (.iload_n 3, 1) := by decide +kernel
theorem dX5_worthOf_117 : decode cX5_worthOf 117 = .ok (.laload, 1) := by decide +kernel
theorem dX5_worthOf_118 : decode cX5_worthOf 118 = .ok (.invokestatic 50, 3) := by decide +kernel
theorem dX5_worthOf_121 : decode cX5_worthOf 121 = .ok (.lastore, 1) := by decide +kernel
theorem dX5_worthOf_122 : decode cX5_worthOf 122 = .ok (.iinc 4 1, 3) := by decide +kernel
theorem dX5_worthOf_125 : decode cX5_worthOf 125 = .ok (.goto (-120), 3) := by decide +kernel
theorem dX5_worthOf_128 : decode cX5_worthOf 128 = .ok (.iload_n 3, 1) := by decide +kernel
theorem dX5_worthOf_129 : decode cX5_worthOf 129 = .ok (.ifCond .le 12, 3) := by decide +kernel
theorem dX5_worthOf_132 : decode cX5_worthOf 132 = .ok (.aload_n 0, 1) := by decide +kernel
theorem dX5_worthOf_133 : decode cX5_worthOf 133 = .ok (.getfield 19, 3) := by decide +kernel
theorem dX5_worthOf_136 : decode cX5_worthOf 136 = .ok (.iconst 0, 1) := by decide +kernel
theorem dX5_worthOf_137 : decode cX5_worthOf 137 = .ok (.laload, 1) := by decide +kernel
theorem dX5_worthOf_138 : decode cX5_worthOf 138 = .ok (.goto 4, 3) := by decide +kernel
theorem dX5_worthOf_141 : decode cX5_worthOf 141 = .ok (.lconst 0, 1) := by decide +kernel
theorem dX5_worthOf_142 : decode cX5_worthOf 142 = .ok (.lreturn, 1) := by decide +kernel
theorem dX5_operand_0 : decode cX5_operand 0 = .ok (.iload_n 0, 1) := by decide +kernel
theorem dX5_operand_1 : decode cX5_operand 1 = .ok (.tableswitch 90 (-7) (-1) #[84, 78, 72, 66, 60, 54, 43], 43) := by decide +kernel
theorem dX5_operand_44 : decode cX5_operand 44 = .ok (.aload_n 1, 1) := by decide +kernel
theorem dX5_operand_45 : decode cX5_operand 45 = .ok (.getfield 54, 3) := by decide +kernel
theorem dX5_operand_48 : decode cX5_operand 48 = .ok (.aload_n 2, 1) := by decide +kernel
theorem dX5_operand_49 : decode cX5_operand 49 = .ok (.getfield 57, 3) := by decide +kernel
theorem dX5_operand_52 : decode cX5_operand 52 = .ok (.isub, 1) := by decide +kernel
theorem dX5_operand_53 : decode cX5_operand 53 = .ok (.i2l, 1) := by decide +kernel
theorem dX5_operand_54 : decode cX5_operand 54 = .ok (.lreturn, 1) := by decide +kernel
theorem dX5_operand_55 : decode cX5_operand 55 = .ok (.aload_n 2, 1) := by decide +kernel
theorem dX5_operand_56 : decode cX5_operand 56 = .ok (.getfield 62, 3) := by decide +kernel
theorem dX5_operand_59 : decode cX5_operand 59 = .ok (.i2l, 1) := by decide +kernel
theorem dX5_operand_60 : decode cX5_operand 60 = .ok (.lreturn, 1) := by decide +kernel
theorem dX5_operand_61 : decode cX5_operand 61 = .ok (.aload_n 2, 1) := by decide +kernel
theorem dX5_operand_62 : decode cX5_operand 62 = .ok (.getfield 65, 3) := by decide +kernel
theorem dX5_operand_65 : decode cX5_operand 65 = .ok (.i2l, 1) := by decide +kernel
theorem dX5_operand_66 : decode cX5_operand 66 = .ok (.lreturn, 1) := by decide +kernel
theorem dX5_operand_67 : decode cX5_operand 67 = .ok (.aload_n 2, 1) := by decide +kernel
theorem dX5_operand_68 : decode cX5_operand 68 = .ok (.getfield 68, 3) := by decide +kernel
theorem dX5_operand_71 : decode cX5_operand 71 = .ok (.i2l, 1) := by decide +kernel
theorem dX5_operand_72 : decode cX5_operand 72 = .ok (.lreturn, 1) := by decide +kernel
theorem dX5_operand_73 : decode cX5_operand 73 = .ok (.aload_n 2, 1) := by decide +kernel
theorem dX5_operand_74 : decode cX5_operand 74 = .ok (.getfield 71, 3) := by decide +kernel
theorem dX5_operand_77 : decode cX5_operand 77 = .ok (.i2l, 1) := by decide +kernel
theorem dX5_operand_78 : decode cX5_operand 78 = .ok (.lreturn, 1) := by decide +kernel
theorem dX5_operand_79 : decode cX5_operand 79 = .ok (.aload_n 2, 1) := by decide +kernel
theorem dX5_operand_80 : decode cX5_operand 80 = .ok (.getfield 74, 3) := by decide +kernel
theorem dX5_operand_83 : decode cX5_operand 83 = .ok (.i2l, 1) := by decide +kernel
theorem dX5_operand_84 : decode cX5_operand 84 = .ok (.lreturn, 1) := by decide +kernel
theorem dX5_operand_85 : decode cX5_operand 85 = .ok (.aload_n 2, 1) := by decide +kernel
theorem dX5_operand_86 : decode cX5_operand 86 = .ok (.getfield 57, 3) := by decide +kernel
theorem dX5_operand_89 : decode cX5_operand 89 = .ok (.i2l, 1) := by decide +kernel
theorem dX5_operand_90 : decode cX5_operand 90 = .ok (.lreturn, 1) := by decide +kernel
theorem dX5_operand_91 : decode cX5_operand 91 = .ok (.iload_n 0, 1) := by decide +kernel
theorem dX5_operand_92 : decode cX5_operand 92 = .ok (.i2l, 1) := by decide +kernel
theorem dX5_operand_93 : decode cX5_operand 93 = .ok (.lreturn, 1) := by decide +kernel
theorem dX5_joined_0 : decode cX5_joined 0 = .ok (.iload_n 0, 1) := by decide +kernel
theorem dX5_joined_1 : decode cX5_joined 1 = .ok (.bipush (-9), 2) := by decide +kernel
theorem dX5_joined_3 : decode cX5_joined 3 = .ok (.if_icmp .ne 7, 3) := by decide +kernel
theorem dX5_joined_6 : decode cX5_joined 6 = .ok (.lload_n 1, 1) := by decide +kernel
theorem dX5_joined_7 : decode cX5_joined 7 = .ok (.lload_n 3, 1) := by decide +kernel
theorem dX5_joined_8 : decode cX5_joined 8 = .ok (.ladd, 1) := by decide +kernel
theorem dX5_joined_9 : decode cX5_joined 9 = .ok (.lreturn, 1) := by decide +kernel
theorem dX5_joined_10 : decode cX5_joined 10 = .ok (.iload_n 0, 1) := by decide +kernel
theorem dX5_joined_11 : decode cX5_joined 11 = .ok (.bipush (-10), 2) := by decide +kernel
theorem dX5_joined_13 : decode cX5_joined 13 = .ok (.if_icmp .ne 9, 3) := by decide +kernel
theorem dX5_joined_16 : decode cX5_joined 16 = .ok (.lload_n 1, 1) := by decide +kernel
theorem dX5_joined_17 : decode cX5_joined 17 = .ok (.lload_n 3, 1) := by decide +kernel
theorem dX5_joined_18 : decode cX5_joined 18 = .ok (.lsub, 1) := by decide +kernel
theorem dX5_joined_19 : decode cX5_joined 19 = .ok (.goto 6, 3) := by decide +kernel
theorem dX5_joined_22 : decode cX5_joined 22 = .ok (.lload_n 1, 1) := by decide +kernel
theorem dX5_joined_23 : decode cX5_joined 23 = .ok (.lload_n 3, 1) := by decide +kernel
theorem dX5_joined_24 : decode cX5_joined 24 = .ok (.lmul, 1) := by decide +kernel
theorem dX5_joined_25 : decode cX5_joined 25 = .ok (.lreturn, 1) := by decide +kernel
theorem dX6_init_0 : decode cX6_init 0 = .ok (.aload_n 0, 1) := by decide +kernel
theorem dX6_init_1 : decode cX6_init 1 = .ok (.invokespecial 3, 3) := by decide +kernel
theorem dX6_init_4 : decode cX6_init 4 = .ok (.aload_n 0, 1) := by decide +kernel
theorem dX6_init_5 : decode cX6_init 5 = .ok (.bipush 24, 2) := by decide +kernel
theorem dX6_init_7 : decode cX6_init 7 = .ok (.newarray .int, 2) := by decide +kernel
theorem dX6_init_9 : decode cX6_init 9 = .ok (.putfield 9, 3) := by decide +kernel
theorem dX6_init_12 : decode cX6_init 12 = .ok (.aload_n 0, 1) := by decide +kernel
theorem dX6_init_13 : decode cX6_init 13 = .ok (.bipush 24, 2) := by decide +kernel
theorem dX6_init_15 : decode cX6_init 15 = .ok (.newarray .int, 2) := by decide +kernel
theorem dX6_init_17 : decode cX6_init 17 = .ok (.putfield 15, 3) := by decide +kernel
theorem dX6_init_20 : decode cX6_init 20 = .ok (.aload_n 0, 1) := by decide +kernel
theorem dX6_init_21 : decode cX6_init 21 = .ok (.bipush 48, 2) := by decide +kernel
theorem dX6_init_23 : decode cX6_init 23 = .ok (.newarray .int, 2) := by decide +kernel
theorem dX6_init_25 : decode cX6_init 25 = .ok (.putfield 18, 3) := by decide +kernel
theorem dX6_init_28 : decode cX6_init 28 = .ok (.aload_n 0, 1) := by decide +kernel
theorem dX6_init_29 : decode cX6_init 29 = .ok (.bipush 48, 2) := by decide +kernel
theorem dX6_init_31 : decode cX6_init 31 = .ok (.newarray .int, 2) := by decide +kernel
theorem dX6_init_33 : decode cX6_init 33 = .ok (.putfield 21, 3) := by decide +kernel
theorem dX6_init_36 : decode cX6_init 36 = .ok (.aload_n 0, 1) := by decide +kernel
theorem dX6_init_37 : decode cX6_init 37 = .ok (.bipush 8, 2) := by decide +kernel
theorem dX6_init_39 : decode cX6_init 39 = .ok (.newarray .int, 2) := by decide +kernel
theorem dX6_init_41 : decode cX6_init 41 = .ok (.putfield 24, 3) := by decide +kernel
theorem dX6_init_44 : decode cX6_init 44 = .ok (.aload_n 0, 1) := by decide +kernel
theorem dX6_init_45 : decode cX6_init 45 = .ok (.bipush 48, 2) := by decide +kernel
theorem dX6_init_47 : decode cX6_init 47 = .ok (.newarray .int, 2) := by decide +kernel
theorem dX6_init_49 : decode cX6_init 49 = .ok (.putfield 27, 3) := by decide +kernel
theorem dX6_init_52 : decode cX6_init 52 = .ok (.aload_n 0, 1) := by decide +kernel
theorem dX6_init_53 : decode cX6_init 53 = .ok (.bipush 24, 2) := by decide +kernel
theorem dX6_init_55 : decode cX6_init 55 = .ok (.newarray .int, 2) := by decide +kernel
theorem dX6_init_57 : decode cX6_init 57 = .ok (.putfield 30, 3) := by decide +kernel
theorem dX6_init_60 : decode cX6_init 60 = .ok (.return_, 1) := by decide +kernel
theorem dX6_stand_0 : decode cX6_stand 0 = .ok (.aload_n 0, 1) := by decide +kernel
theorem dX6_stand_1 : decode cX6_stand 1 = .ok (.iconst 0, 1) := by decide +kernel
theorem dX6_stand_2 : decode cX6_stand 2 = .ok (.putfield 33, 3) := by decide +kernel
theorem dX6_stand_5 : decode cX6_stand 5 = .ok (.aload_n 0, 1) := by decide +kernel
theorem dX6_stand_6 : decode cX6_stand 6 = .ok (.getfield 24, 3) := by decide +kernel
theorem dX6_stand_9 : decode cX6_stand 9 = .ok (.iconst 0, 1) := by decide +kernel
theorem dX6_stand_10 : decode cX6_stand 10 = .ok (.invokestatic 37, 3) := by decide +kernel
theorem dX6_stand_13 : decode cX6_stand 13 = .ok (.iconst 0, 1) := by decide +kernel
theorem dX6_stand_14 : decode cX6_stand 14 = .ok (.istore_n 3, 1) := by decide +kernel
theorem dX6_stand_15 : decode cX6_stand 15 = .ok (.iload_n 3, 1) := by decide +kernel
theorem dX6_stand_16 : decode cX6_stand 16 = .ok (.aload_n 1, 1) := by decide +kernel
theorem dX6_stand_17 : decode cX6_stand 17 = .ok (.getfield 43, 3) := by decide +kernel
theorem dX6_stand_20 : decode cX6_stand 20 = .ok (.if_icmp .ge 50, 3) := by decide +kernel
theorem dX6_stand_23 : decode cX6_stand 23 = .ok (.aload_n 0, 1) := by decide +kernel
theorem dX6_stand_24 : decode cX6_stand 24 = .ok (.getfield 30, 3) := by decide +kernel
theorem dX6_stand_27 : decode cX6_stand 27 = .ok (.iload_n 3, 1) := by decide +kernel
theorem dX6_stand_28 : decode cX6_stand 28 = .ok (.aload_n 1, 1) := by decide +kernel
theorem dX6_stand_29 : decode cX6_stand 29 = .ok (.iload_n 3, 1) := by decide +kernel
theorem dX6_stand_30 : decode cX6_stand 30 = .ok (.invokevirtual 48, 3) := by decide +kernel
theorem dX6_stand_33 : decode cX6_stand 33 = .ok (.ifCond .eq 15, 3) := by decide +kernel
theorem dX6_stand_36 : decode cX6_stand 36 = .ok (.aload_n 1, 1) := by decide +kernel
theorem dX6_stand_37 : decode cX6_stand 37 = .ok (.getfield 52, 3) := by decide +kernel
theorem dX6_stand_40 : decode cX6_stand 40 = .ok (.iload_n 3, 1) := by decide +kernel
theorem dX6_stand_41 : decode cX6_stand 41 = .ok (.aaload, 1) := by decide +kernel
theorem dX6_stand_42 : decode cX6_stand 42 = .ok (.getfield 56, 3) := by decide +kernel
theorem dX6_stand_45 : decode cX6_stand 45 = .ok (.goto 4, 3) := by decide +kernel
theorem dX6_stand_48 : decode cX6_stand 48 = .ok (.iconst 0, 1) := by decide +kernel
theorem dX6_stand_49 : decode cX6_stand 49 = .ok (.iastore, 1) := by decide +kernel
theorem dX6_stand_50 : decode cX6_stand 50 = .ok (.aload_n 0, 1) := by decide +kernel
theorem dX6_stand_51 : decode cX6_stand 51 = .ok (.getfield 9, 3) := by decide +kernel
theorem dX6_stand_54 : decode cX6_stand 54 = .ok (.iload_n 3, 1) := by decide +kernel
theorem dX6_stand_55 : decode cX6_stand 55 = .ok (.iconst 0, 1) := by decide +kernel
theorem dX6_stand_56 : decode cX6_stand 56 = .ok (.iastore, 1) := by decide +kernel
theorem dX6_stand_57 : decode cX6_stand 57 = .ok (.aload_n 0, 1) := by decide +kernel
theorem dX6_stand_58 : decode cX6_stand 58 = .ok (.getfield 15, 3) := by decide +kernel
theorem dX6_stand_61 : decode cX6_stand 61 = .ok (.iload_n 3, 1) := by decide +kernel
theorem dX6_stand_62 : decode cX6_stand 62 = .ok (.iconst 0, 1) := by decide +kernel
theorem dX6_stand_63 : decode cX6_stand 63 = .ok (.iastore, 1) := by decide +kernel
theorem dX6_stand_64 : decode cX6_stand 64 = .ok (.iinc 3 1, 3) := by decide +kernel
theorem dX6_stand_67 : decode cX6_stand 67 = .ok (.goto (-52), 3) := by decide +kernel
theorem dX6_stand_70 : decode cX6_stand 70 = .ok (.iconst 0, 1) := by decide +kernel
theorem dX6_stand_71 : decode cX6_stand 71 = .ok (.istore_n 3, 1) := by decide +kernel
theorem dX6_stand_72 : decode cX6_stand 72 = .ok (.iload_n 3, 1) := by decide +kernel
theorem dX6_stand_73 : decode cX6_stand 73 = .ok (.aload_n 2, 1) := by decide +kernel
theorem dX6_stand_74 : decode cX6_stand 74 = .ok (.getfield 61, 3) := by decide +kernel
theorem dX6_stand_77 : decode cX6_stand 77 = .ok (.if_icmp .ge 34, 3) := by decide +kernel
theorem dX6_stand_80 : decode cX6_stand 80 = .ok (.aload_n 1, 1) := by decide +kernel
theorem dX6_stand_81 : decode cX6_stand 81 = .ok (.aload_n 2, 1) := by decide +kernel
theorem dX6_stand_82 : decode cX6_stand 82 = .ok (.getfield 66, 3) := by decide +kernel
theorem dX6_stand_85 : decode cX6_stand 85 = .ok (.iload_n 3, 1) := by decide +kernel
theorem dX6_stand_86 : decode cX6_stand 86 = .ok (.iaload, 1) := by decide +kernel
theorem dX6_stand_87 : decode cX6_stand 87 = .ok (.invokevirtual 48, 3) := by decide +kernel
theorem dX6_stand_90 : decode cX6_stand 90 = .ok (.ifCond .eq 15, 3) := by decide +kernel
theorem dX6_stand_93 : decode cX6_stand 93 = .ok (.aload_n 0, 1) := by decide +kernel
theorem dX6_stand_94 : decode cX6_stand 94 = .ok (.aload_n 1, 1) := by decide +kernel
theorem dX6_stand_95 : decode cX6_stand 95 = .ok (.aload_n 2, 1) := by decide +kernel
theorem dX6_stand_96 : decode cX6_stand 96 = .ok (.aload_n 2, 1) := by decide +kernel
theorem dX6_stand_97 : decode cX6_stand 97 = .ok (.getfield 66, 3) := by decide +kernel
theorem dX6_stand_100 : decode cX6_stand 100 = .ok (.iload_n 3, 1) := by decide +kernel
theorem dX6_stand_101 : decode cX6_stand 101 = .ok (.iaload, 1) := by decide +kernel
theorem dX6_stand_102 : decode cX6_stand 102 = .ok (.invokevirtual 69, 3) := by decide +kernel
theorem dX6_stand_105 : decode cX6_stand 105 = .ok (.iinc 3 1, 3) := by decide +kernel
theorem dX6_stand_108 : decode cX6_stand 108 = .ok (.goto (-36), 3) := by decide +kernel
theorem dX6_stand_111 : decode cX6_stand 111 = .ok (.return_, 1) := by decide +kernel
theorem dX6_standOne_0 : decode cX6_standOne 0 = .ok (.aload_n 1, 1) := by decide +kernel
theorem dX6_standOne_1 : decode cX6_standOne 1 = .ok (.getfield 52, 3) := by decide +kernel
theorem dX6_standOne_4 : decode cX6_standOne 4 = .ok (.iload_n 3, 1) := by decide +kernel
theorem dX6_standOne_5 : decode cX6_standOne 5 = .ok (.aaload, 1) := by decide +kernel
theorem dX6_standOne_6 : decode cX6_standOne 6 = .ok (.getfield 73, 3) := by decide +kernel
theorem dX6_standOne_9 : decode cX6_standOne 9 = .ok (.istore 4, 2) := by decide +kernel
theorem dX6_standOne_11 : decode cX6_standOne 11 = .ok (.aload_n 1, 1) := by decide +kernel
theorem dX6_standOne_12 : decode cX6_standOne 12 = .ok (.getfield 52, 3) := by decide +kernel
theorem dX6_standOne_15 : decode cX6_standOne 15 = .ok (.iload_n 3, 1) := by decide +kernel
theorem dX6_standOne_16 : decode cX6_standOne 16 = .ok (.aaload, 1) := by decide +kernel
theorem dX6_standOne_17 : decode cX6_standOne 17 = .ok (.getfield 56, 3) := by decide +kernel
theorem dX6_standOne_20 : decode cX6_standOne 20 = .ok (.istore 5, 2) := by decide +kernel
theorem dX6_standOne_22 : decode cX6_standOne 22 = .ok (.aload_n 0, 1) := by decide +kernel
theorem dX6_standOne_23 : decode cX6_standOne 23 = .ok (.getfield 9, 3) := by decide +kernel
theorem dX6_standOne_26 : decode cX6_standOne 26 = .ok (.iload_n 3, 1) := by decide +kernel
theorem dX6_standOne_27 : decode cX6_standOne 27 = .ok (.aload_n 0, 1) := by decide +kernel
theorem dX6_standOne_28 : decode cX6_standOne 28 = .ok (.getfield 33, 3) := by decide +kernel
theorem dX6_standOne_31 : decode cX6_standOne 31 = .ok (.iastore, 1) := by decide +kernel
theorem dX6_standOne_32 : decode cX6_standOne 32 = .ok (.iconst 0, 1) := by decide +kernel
theorem dX6_standOne_33 : decode cX6_standOne 33 = .ok (.istore 6, 2) := by decide +kernel
theorem dX6_standOne_35 : decode cX6_standOne 35 = .ok (.iload 6, 2) := by decide +kernel
theorem dX6_standOne_37 : decode cX6_standOne 37 = .ok (.aload_n 2, 1) := by decide +kernel
theorem dX6_standOne_38 : decode cX6_standOne 38 = .ok (.getfield 61, 3) := by decide +kernel
theorem dX6_standOne_41 : decode cX6_standOne 41 = .ok (.if_icmp .ge 89, 3) := by decide +kernel
theorem dX6_standOne_44 : decode cX6_standOne 44 = .ok (.iload 5, 2) := by decide +kernel
theorem dX6_standOne_46 : decode cX6_standOne 46 = .ok (.ifCond .le 84, 3) := by decide +kernel
theorem dX6_standOne_49 : decode cX6_standOne 49 = .ok (.aload_n 2, 1) := by decide +kernel
theorem dX6_standOne_50 : decode cX6_standOne 50 = .ok (.getfield 66, 3) := by decide +kernel
theorem dX6_standOne_53 : decode cX6_standOne 53 = .ok (.iload 6, 2) := by decide +kernel
theorem dX6_standOne_55 : decode cX6_standOne 55 = .ok (.iaload, 1) := by decide +kernel
theorem dX6_standOne_56 : decode cX6_standOne 56 = .ok (.istore 7, 2) := by decide +kernel
theorem dX6_standOne_58 : decode cX6_standOne 58 = .ok (.aload_n 1, 1) := by decide +kernel
theorem dX6_standOne_59 : decode cX6_standOne 59 = .ok (.getfield 52, 3) := by decide +kernel
theorem dX6_standOne_62 : decode cX6_standOne 62 = .ok (.iload 7, 2) := by decide +kernel
theorem dX6_standOne_64 : decode cX6_standOne 64 = .ok (.aaload, 1) := by decide +kernel
theorem dX6_standOne_65 : decode cX6_standOne 65 = .ok (.getfield 76, 3) := by decide +kernel
theorem dX6_standOne_68 : decode cX6_standOne 68 = .ok (.iload 4, 2) := by decide +kernel
theorem dX6_standOne_70 : decode cX6_standOne 70 = .ok (.if_icmp .ne 54, 3) := by decide +kernel
theorem dX6_standOne_73 : decode cX6_standOne 73 = .ok (.aload_n 0, 1) := by decide +kernel
theorem dX6_standOne_74 : decode cX6_standOne 74 = .ok (.getfield 30, 3) := by decide +kernel
theorem dX6_standOne_77 : decode cX6_standOne 77 = .ok (.iload 7, 2) := by decide +kernel
theorem dX6_standOne_79 : decode cX6_standOne 79 = .ok (.iaload, 1) := by decide +kernel
theorem dX6_standOne_80 : decode cX6_standOne 80 = .ok (.ifCond .le 44, 3) := by decide +kernel
theorem dX6_standOne_83 : decode cX6_standOne 83 = .ok (.iload 5, 2) := by decide +kernel
theorem dX6_standOne_85 : decode cX6_standOne 85 = .ok (.aload_n 0, 1) := by decide +kernel
theorem dX6_standOne_86 : decode cX6_standOne 86 = .ok (.getfield 30, 3) := by decide +kernel
theorem dX6_standOne_89 : decode cX6_standOne 89 = .ok (.iload 7, 2) := by decide +kernel
theorem dX6_standOne_91 : decode cX6_standOne 91 = .ok (.iaload, 1) := by decide +kernel
theorem dX6_standOne_92 : decode cX6_standOne 92 = .ok (.invokestatic 79, 3) := by decide +kernel
theorem dX6_standOne_95 : decode cX6_standOne 95 = .ok (.istore 8, 2) := by decide +kernel
theorem dX6_standOne_97 : decode cX6_standOne 97 = .ok (.aload_n 0, 1) := by decide +kernel
theorem dX6_standOne_98 : decode cX6_standOne 98 = .ok (.getfield 30, 3) := by decide +kernel
theorem dX6_standOne_101 : decode cX6_standOne 101 = .ok (.iload 7, 2) := by decide +kernel
theorem dX6_standOne_103 : decode cX6_standOne 103 = .ok (.dup2, 1) := by decide +kernel
theorem dX6_standOne_104 : decode cX6_standOne 104 = .ok (.iaload, 1) := by decide +kernel
theorem dX6_standOne_105 : decode cX6_standOne 105 = .ok (.iload 8, 2) := by decide +kernel
theorem dX6_standOne_107 : decode cX6_standOne 107 = .ok (.isub, 1) := by decide +kernel
theorem dX6_standOne_108 : decode cX6_standOne 108 = .ok (.iastore, 1) := by decide +kernel
theorem dX6_standOne_109 : decode cX6_standOne 109 = .ok (.iload 5, 2) := by decide +kernel
theorem dX6_standOne_111 : decode cX6_standOne 111 = .ok (.iload 8, 2) := by decide +kernel
theorem dX6_standOne_113 : decode cX6_standOne 113 = .ok (.isub, 1) := by decide +kernel
theorem dX6_standOne_114 : decode cX6_standOne 114 = .ok (.istore 5, 2) := by decide +kernel
theorem dX6_standOne_116 : decode cX6_standOne 116 = .ok (.aload_n 0, 1) := by decide +kernel
theorem dX6_standOne_117 : decode cX6_standOne 117 = .ok (.iload 7, 2) := by decide +kernel
theorem dX6_standOne_119 : decode cX6_standOne 119 = .ok (.iload 8, 2) := by decide +kernel
theorem dX6_standOne_121 : decode cX6_standOne 121 = .ok (.invokevirtual 85, 3) := by decide +kernel
theorem dX6_standOne_124 : decode cX6_standOne 124 = .ok (.iinc 6 1, 3) := by decide +kernel
theorem dX6_standOne_127 : decode cX6_standOne 127 = .ok (.goto (-92), 3) := by decide +kernel
theorem dX6_standOne_130 : decode cX6_standOne 130 = .ok (.aload_n 0, 1) := by decide +kernel
theorem dX6_standOne_131 : decode cX6_standOne 131 = .ok (.getfield 15, 3) := by decide +kernel
theorem dX6_standOne_134 : decode cX6_standOne 134 = .ok (.iload_n 3, 1) := by decide +kernel
theorem dX6_standOne_135 : decode cX6_standOne 135 = .ok (.aload_n 0, 1) := by decide +kernel
theorem dX6_standOne_136 : decode cX6_standOne 136 = .ok (.getfield 33, 3) := by decide +kernel
theorem dX6_standOne_139 : decode cX6_standOne 139 = .ok (.aload_n 0, 1) := by decide +kernel
theorem dX6_standOne_140 : decode cX6_standOne 140 = .ok (.getfield 9, 3) := by decide +kernel
theorem dX6_standOne_143 : decode cX6_standOne 143 = .ok (.iload_n 3, 1) := by decide +kernel
theorem dX6_standOne_144 : decode cX6_standOne 144 = .ok (.iaload, 1) := by decide +kernel
theorem dX6_standOne_145 : decode cX6_standOne 145 = .ok (.isub, 1) := by decide +kernel
theorem dX6_standOne_146 : decode cX6_standOne 146 = .ok (.iastore, 1) := by decide +kernel
theorem dX6_standOne_147 : decode cX6_standOne 147 = .ok (.aload_n 0, 1) := by decide +kernel
theorem dX6_standOne_148 : decode cX6_standOne 148 = .ok (.getfield 24, 3) := by decide +kernel
theorem dX6_standOne_151 : decode cX6_standOne 151 = .ok (.iload 4, 2) := by decide +kernel
theorem dX6_standOne_153 : decode cX6_standOne 153 = .ok (.dup2, 1) := by decide +kernel
theorem dX6_standOne_154 : decode cX6_standOne 154 = .ok (.iaload, 1) := by decide +kernel
theorem dX6_standOne_155 : decode cX6_standOne 155 = .ok (.iload 5, 2) := by decide +kernel
theorem dX6_standOne_157 : decode cX6_standOne 157 = .ok (.iadd, 1) := by decide +kernel
theorem dX6_standOne_158 : decode cX6_standOne 158 = .ok (.iastore, 1) := by decide +kernel
theorem dX6_standOne_159 : decode cX6_standOne 159 = .ok (.return_, 1) := by decide +kernel
theorem dX6_add_0 : decode cX6_add 0 = .ok (.aload_n 0, 1) := by decide +kernel
theorem dX6_add_1 : decode cX6_add 1 = .ok (.getfield 33, 3) := by decide +kernel
theorem dX6_add_4 : decode cX6_add 4 = .ok (.bipush 48, 2) := by decide +kernel
theorem dX6_add_6 : decode cX6_add 6 = .ok (.if_icmp .ge 43, 3) := by decide +kernel
theorem dX6_add_9 : decode cX6_add 9 = .ok (.aload_n 0, 1) := by decide +kernel
theorem dX6_add_10 : decode cX6_add 10 = .ok (.getfield 18, 3) := by decide +kernel
theorem dX6_add_13 : decode cX6_add 13 = .ok (.aload_n 0, 1) := by decide +kernel
theorem dX6_add_14 : decode cX6_add 14 = .ok (.getfield 33, 3) := by decide +kernel
theorem dX6_add_17 : decode cX6_add 17 = .ok (.iload_n 1, 1) := by decide +kernel
theorem dX6_add_18 : decode cX6_add 18 = .ok (.iastore, 1) := by decide +kernel
theorem dX6_add_19 : decode cX6_add 19 = .ok (.aload_n 0, 1) := by decide +kernel
theorem dX6_add_20 : decode cX6_add 20 = .ok (.getfield 21, 3) := by decide +kernel
theorem dX6_add_23 : decode cX6_add 23 = .ok (.aload_n 0, 1) := by decide +kernel
theorem dX6_add_24 : decode cX6_add 24 = .ok (.getfield 33, 3) := by decide +kernel
theorem dX6_add_27 : decode cX6_add 27 = .ok (.iload_n 2, 1) := by decide +kernel
theorem dX6_add_28 : decode cX6_add 28 = .ok (.iastore, 1) := by decide +kernel
theorem dX6_add_29 : decode cX6_add 29 = .ok (.aload_n 0, 1) := by decide +kernel
theorem dX6_add_30 : decode cX6_add 30 = .ok (.getfield 27, 3) := by decide +kernel
theorem dX6_add_33 : decode cX6_add 33 = .ok (.aload_n 0, 1) := by decide +kernel
theorem dX6_add_34 : decode cX6_add 34 = .ok (.getfield 33, 3) := by decide +kernel
theorem dX6_add_37 : decode cX6_add 37 = .ok (.iload_n 2, 1) := by decide +kernel
theorem dX6_add_38 : decode cX6_add 38 = .ok (.iastore, 1) := by decide +kernel
theorem dX6_add_39 : decode cX6_add 39 = .ok (.aload_n 0, 1) := by decide +kernel
theorem dX6_add_40 : decode cX6_add 40 = .ok (.dup, 1) := by decide +kernel
theorem dX6_add_41 : decode cX6_add 41 = .ok (.getfield 33, 3) := by decide +kernel
theorem dX6_add_44 : decode cX6_add 44 = .ok (.iconst 1, 1) := by decide +kernel
theorem dX6_add_45 : decode cX6_add 45 = .ok (.iadd, 1) := by decide +kernel
theorem dX6_add_46 : decode cX6_add 46 = .ok (.putfield 33, 3) := by decide +kernel
theorem dX6_add_49 : decode cX6_add 49 = .ok (.return_, 1) := by decide +kernel
theorem dX6_linkOf_0 : decode cX6_linkOf 0 = .ok (.iload_n 1, 1) := by decide +kernel
theorem dX6_linkOf_1 : decode cX6_linkOf 1 = .ok (.istore_n 3, 1) := by decide +kernel
theorem dX6_linkOf_2 : decode cX6_linkOf 2 = .ok (.iconst 1, 1) := by decide +kernel
theorem dX6_linkOf_3 : decode cX6_linkOf 3 = .ok (.iload_n 1, 1) := by decide +kernel
theorem dX6_linkOf_4 : decode cX6_linkOf 4 = .ok (.ishl, 1) := by decide +kernel
theorem dX6_linkOf_5 : decode cX6_linkOf 5 = .ok (.istore 4, 2) := by decide +kernel
theorem dX6_linkOf_7 : decode cX6_linkOf 7 = .ok (.iconst 0, 1) := by decide +kernel
theorem dX6_linkOf_8 : decode cX6_linkOf 8 = .ok (.istore 5, 2) := by decide +kernel
theorem dX6_linkOf_10 : decode cX6_linkOf 10 = .ok (.iload 5, 2) := by decide +kernel
theorem dX6_linkOf_12 : decode cX6_linkOf 12 = .ok (.iload_n 2, 1) := by decide +kernel
theorem dX6_linkOf_13 : decode cX6_linkOf 13 = .ok (.if_icmp .ge 58, 3) := by decide +kernel
theorem dX6_linkOf_16 : decode cX6_linkOf 16 = .ok (.iload 5, 2) := by decide +kernel
theorem dX6_linkOf_18 : decode cX6_linkOf 18 = .ok (.bipush 24, 2) := by decide +kernel
theorem dX6_linkOf_20 : decode cX6_linkOf 20 = .ok (.if_icmp .ge 51, 3) := by decide +kernel
theorem dX6_linkOf_23 : decode cX6_linkOf 23 = .ok (.aload_n 0, 1) := by decide +kernel
theorem dX6_linkOf_24 : decode cX6_linkOf 24 = .ok (.getfield 15, 3) := by decide +kernel
theorem dX6_linkOf_27 : decode cX6_linkOf 27 = .ok (.iload_n 3, 1) := by decide +kernel
theorem dX6_linkOf_28 : decode cX6_linkOf 28 = .ok (.iaload, 1) := by decide +kernel
theorem dX6_linkOf_29 : decode cX6_linkOf 29 = .ok (.ifCond .ne 5, 3) := by decide +kernel
theorem dX6_linkOf_32 : decode cX6_linkOf 32 = .ok (.iconst (-1), 1) := by decide +kernel
theorem dX6_linkOf_33 : decode cX6_linkOf 33 = .ok (.ireturn, 1) := by decide +kernel
theorem dX6_linkOf_34 : decode cX6_linkOf 34 = .ok (.aload_n 0, 1) := by decide +kernel
theorem dX6_linkOf_35 : decode cX6_linkOf 35 = .ok (.getfield 18, 3) := by decide +kernel
theorem dX6_linkOf_38 : decode cX6_linkOf 38 = .ok (.aload_n 0, 1) := by decide +kernel
theorem dX6_linkOf_39 : decode cX6_linkOf 39 = .ok (.getfield 9, 3) := by decide +kernel
theorem dX6_linkOf_42 : decode cX6_linkOf 42 = .ok (.iload_n 3, 1) := by decide +kernel
theorem dX6_linkOf_43 : decode cX6_linkOf 43 = .ok (.iaload, 1) := by decide +kernel
theorem dX6_linkOf_44 : decode cX6_linkOf 44 = .ok (.iaload, 1) := by decide +kernel
theorem dX6_linkOf_45 : decode cX6_linkOf 45 = .ok (.istore_n 3, 1) := by decide +kernel
theorem dX6_linkOf_46 : decode cX6_linkOf 46 = .ok (.iload 4, 2) := by decide +kernel
theorem dX6_linkOf_48 : decode cX6_linkOf 48 = .ok (.iload_n 3, 1) := by decide +kernel
theorem dX6_linkOf_49 : decode cX6_linkOf 49 = .ok (.ishr, 1) := by decide +kernel
theorem dX6_linkOf_50 : decode cX6_linkOf 50 = .ok (.iconst 1, 1) := by decide +kernel
theorem dX6_linkOf_51 : decode cX6_linkOf 51 = .ok (.iand, 1) := by decide +kernel
theorem dX6_linkOf_52 : decode cX6_linkOf 52 = .ok (.ifCond .eq 5, 3) := by decide +kernel
theorem dX6_linkOf_55 : decode cX6_linkOf 55 = .ok (.iconst (-1), 1) := by decide +kernel
theorem dX6_linkOf_56 : decode cX6_linkOf 56 = .ok (.ireturn, 1) := by decide +kernel
theorem dX6_linkOf_57 : decode cX6_linkOf 57 = .ok (.iload 4, 2) := by decide +kernel
theorem dX6_linkOf_59 : decode cX6_linkOf 59 = .ok (.iconst 1, 1) := by decide +kernel
theorem dX6_linkOf_60 : decode cX6_linkOf 60 = .ok (.iload_n 3, 1) := by decide +kernel
theorem dX6_linkOf_61 : decode cX6_linkOf 61 = .ok (.ishl, 1) := by decide +kernel
theorem dX6_linkOf_62 : decode cX6_linkOf 62 = .ok (.ior, 1) := by decide +kernel
theorem dX6_linkOf_63 : decode cX6_linkOf 63 = .ok (.istore 4, 2) := by decide +kernel
theorem dX6_linkOf_65 : decode cX6_linkOf 65 = .ok (.iinc 5 1, 3) := by decide +kernel
theorem dX6_linkOf_68 : decode cX6_linkOf 68 = .ok (.goto (-58), 3) := by decide +kernel
theorem dX6_linkOf_71 : decode cX6_linkOf 71 = .ok (.iload_n 3, 1) := by decide +kernel
theorem dX6_linkOf_72 : decode cX6_linkOf 72 = .ok (.ireturn, 1) := by decide +kernel
theorem dX6_buyIn_0 : decode cX6_buyIn 0 = .ok (.aload_n 0, 1) := by decide +kernel
theorem dX6_buyIn_1 : decode cX6_buyIn 1 = .ok (.aload_n 1, 1) := by decide +kernel
theorem dX6_buyIn_2 : decode cX6_buyIn 2 = .ok (.aload_n 2, 1) := by decide +kernel
theorem dX6_buyIn_3 : decode cX6_buyIn 3 = .ok (.invokevirtual 89, 3) := by decide +kernel
theorem dX6_buyIn_6 : decode cX6_buyIn 6 = .ok (.aload_n 1, 1) := by decide +kernel
theorem dX6_buyIn_7 : decode cX6_buyIn 7 = .ok (.iload_n 3, 1) := by decide +kernel
theorem dX6_buyIn_8 : decode cX6_buyIn 8 = .ok (.iload 4, 2) := by decide +kernel
theorem dX6_buyIn_10 : decode cX6_buyIn 10 = .ok (.invokevirtual 93, 3) := by decide +kernel
theorem dX6_buyIn_13 : decode cX6_buyIn 13 = .ok (.aload_n 0, 1) := by decide +kernel
theorem dX6_buyIn_14 : decode cX6_buyIn 14 = .ok (.aload_n 1, 1) := by decide +kernel
theorem dX6_buyIn_15 : decode cX6_buyIn 15 = .ok (.iload_n 3, 1) := by decide +kernel
theorem dX6_buyIn_16 : decode cX6_buyIn 16 = .ok (.iload 4, 2) := by decide +kernel
theorem dX6_buyIn_18 : decode cX6_buyIn 18 = .ok (.iconst 0, 1) := by decide +kernel
theorem dX6_buyIn_19 : decode cX6_buyIn 19 = .ok (.iconst 0, 1) := by decide +kernel
theorem dX6_buyIn_20 : decode cX6_buyIn 20 = .ok (.invokevirtual 96, 3) := by decide +kernel
theorem dX6_buyIn_23 : decode cX6_buyIn 23 = .ok (.return_, 1) := by decide +kernel
theorem dX6_closeDown_0 : decode cX6_closeDown 0 = .ok (.iload 5, 2) := by decide +kernel
theorem dX6_closeDown_2 : decode cX6_closeDown 2 = .ok (.bipush 24, 2) := by decide +kernel
theorem dX6_closeDown_4 : decode cX6_closeDown 4 = .ok (.if_icmp .lt 4, 3) := by decide +kernel
theorem dX6_closeDown_7 : decode cX6_closeDown 7 = .ok (.return_, 1) := by decide +kernel
theorem dX6_closeDown_8 : decode cX6_closeDown 8 = .ok (.aload_n 1, 1) := by decide +kernel
theorem dX6_closeDown_9 : decode cX6_closeDown 9 = .ok (.iload_n 2, 1) := by decide +kernel
theorem dX6_closeDown_10 : decode cX6_closeDown 10 = .ok (.iload_n 3, 1) := by decide +kernel
theorem dX6_closeDown_11 : decode cX6_closeDown 11 = .ok (.invokevirtual 100, 3) := by decide +kernel
theorem dX6_closeDown_14 : decode cX6_closeDown 14 = .ok (.iload 4, 2) := by decide +kernel
theorem dX6_closeDown_16 : decode cX6_closeDown 16 = .ok (.iconst 1, 1) := by decide +kernel
theorem dX6_closeDown_17 : decode cX6_closeDown 17 = .ok (.iload_n 2, 1) := by decide +kernel
theorem dX6_closeDown_18 : decode cX6_closeDown 18 = .ok (.ishl, 1) := by decide +kernel
theorem dX6_closeDown_19 : decode cX6_closeDown 19 = .ok (.ior, 1) := by decide +kernel
theorem dX6_closeDown_20 : decode cX6_closeDown 20 = .ok (.istore 6, 2) := by decide +kernel
theorem dX6_closeDown_22 : decode cX6_closeDown 22 = .ok (.iload_n 3, 1) := by decide +kernel
theorem dX6_closeDown_23 : decode cX6_closeDown 23 = .ok (.istore 7, 2) := by decide +kernel
theorem dX6_closeDown_25 : decode cX6_closeDown 25 = .ok (.aload_n 0, 1) := by decide +kernel
theorem dX6_closeDown_26 : decode cX6_closeDown 26 = .ok (.getfield 9, 3) := by decide +kernel
theorem dX6_closeDown_29 : decode cX6_closeDown 29 = .ok (.iload_n 2, 1) := by decide +kernel
theorem dX6_closeDown_30 : decode cX6_closeDown 30 = .ok (.iaload, 1) := by decide +kernel
theorem dX6_closeDown_31 : decode cX6_closeDown 31 = .ok (.aload_n 0, 1) := by decide +kernel
theorem dX6_closeDown_32 : decode cX6_closeDown 32 = .ok (.getfield 15, 3) := by decide +kernel
theorem dX6_closeDown_35 : decode cX6_closeDown 35 = .ok (.iload_n 2, 1) := by decide +kernel
theorem dX6_closeDown_36 : decode cX6_closeDown 36 = .ok (.iaload, 1) := by decide +kernel
theorem dX6_closeDown_37 : decode cX6_closeDown 37 = .ok (.iadd, 1) := by decide +kernel
theorem dX6_closeDown_38 : decode cX6_closeDown 38 = .ok (.istore 8, 2) := by decide +kernel
theorem dX6_closeDown_40 : decode cX6_closeDown 40 = .ok (.aload_n 0, 1) := by decide +kernel
theorem dX6_closeDown_41 : decode cX6_closeDown 41 = .ok (.getfield 9, 3) := by decide +kernel
theorem dX6_closeDown_44 : decode cX6_closeDown 44 = .ok (.iload_n 2, 1) := by decide +kernel
theorem dX6_closeDown_45 : decode cX6_closeDown 45 = .ok (.iaload, 1) := by decide +kernel
theorem dX6_closeDown_46 : decode cX6_closeDown 46 = .ok (.istore 9, 2) := by decide +kernel
theorem dX6_closeDown_48 : decode cX6_closeDown 48 = .ok (.iload 9, 2) := by decide +kernel
theorem dX6_closeDown_50 : decode cX6_closeDown 50 = .ok (.iload 8, 2) := by decide +kernel
theorem dX6_closeDown_52 : decode cX6_closeDown 52 = .ok (.if_icmp .ge 87, 3) := by decide +kernel
theorem dX6_closeDown_55 : decode cX6_closeDown 55 = .ok (.iload 7, 2) := by decide +kernel
theorem dX6_closeDown_57 : decode cX6_closeDown 57 = .ok (.ifCond .le 82, 3) := by decide +kernel
theorem dX6_closeDown_60 : decode cX6_closeDown 60 = .ok (.iload 7, 2) := by decide +kernel
theorem dX6_closeDown_62 : decode cX6_closeDown 62 = .ok (.aload_n 0, 1) := by decide +kernel
theorem dX6_closeDown_63 : decode cX6_closeDown 63 = .ok (.getfield 27, 3) := by decide +kernel
theorem dX6_closeDown_66 : decode cX6_closeDown 66 = .ok (.iload 9, 2) := by decide +kernel
theorem dX6_closeDown_68 : decode cX6_closeDown 68 = .ok (.iaload, 1) := by decide +kernel
theorem dX6_closeDown_69 : decode cX6_closeDown 69 = .ok (.invokestatic 79, 3) := by decide +kernel
theorem dX6_closeDown_72 : decode cX6_closeDown 72 = .ok (.istore 10, 2) := by decide +kernel
theorem dX6_closeDown_74 : decode cX6_closeDown 74 = .ok (.iload 10, 2) := by decide +kernel
theorem dX6_closeDown_76 : decode cX6_closeDown 76 = .ok (.ifCond .le 57, 3) := by decide +kernel
theorem dX6_closeDown_79 : decode cX6_closeDown 79 = .ok (.iload 6, 2) := by decide +kernel
theorem dX6_closeDown_81 : decode cX6_closeDown 81 = .ok (.aload_n 0, 1) := by decide +kernel
theorem dX6_closeDown_82 : decode cX6_closeDown 82 = .ok (.getfield 18, 3) := by decide +kernel
theorem dX6_closeDown_85 : decode cX6_closeDown 85 = .ok (.iload 9, 2) := by decide +kernel
theorem dX6_closeDown_87 : decode cX6_closeDown 87 = .ok (.iaload, 1) := by decide +kernel
theorem dX6_closeDown_88 : decode cX6_closeDown 88 = .ok (.ishr, 1) := by decide +kernel
theorem dX6_closeDown_89 : decode cX6_closeDown 89 = .ok (.iconst 1, 1) := by decide +kernel
theorem dX6_closeDown_90 : decode cX6_closeDown 90 = .ok (.iand, 1) := by decide +kernel
theorem dX6_closeDown_91 : decode cX6_closeDown 91 = .ok (.ifCond .ne 42, 3) := by decide +kernel
theorem dX6_closeDown_94 : decode cX6_closeDown 94 = .ok (.aload_n 0, 1) := by decide +kernel
theorem dX6_closeDown_95 : decode cX6_closeDown 95 = .ok (.getfield 27, 3) := by decide +kernel
theorem dX6_closeDown_98 : decode cX6_closeDown 98 = .ok (.iload 9, 2) := by decide +kernel
theorem dX6_closeDown_100 : decode cX6_closeDown 100 = .ok (.dup2, 1) := by decide +kernel
theorem dX6_closeDown_101 : decode cX6_closeDown 101 = .ok (.iaload, 1) := by decide +kernel
theorem dX6_closeDown_102 : decode cX6_closeDown 102 = .ok (.iload 10, 2) := by decide +kernel
theorem dX6_closeDown_104 : decode cX6_closeDown 104 = .ok (.isub, 1) := by decide +kernel
theorem dX6_closeDown_105 : decode cX6_closeDown 105 = .ok (.iastore, 1) := by decide +kernel
theorem dX6_closeDown_106 : decode cX6_closeDown 106 = .ok (.iload 7, 2) := by decide +kernel
theorem dX6_closeDown_108 : decode cX6_closeDown 108 = .ok (.iload 10, 2) := by decide +kernel
theorem dX6_closeDown_110 : decode cX6_closeDown 110 = .ok (.isub, 1) := by decide +kernel
theorem dX6_closeDown_111 : decode cX6_closeDown 111 = .ok (.istore 7, 2) := by decide +kernel
theorem dX6_closeDown_113 : decode cX6_closeDown 113 = .ok (.aload_n 0, 1) := by decide +kernel
theorem dX6_closeDown_114 : decode cX6_closeDown 114 = .ok (.aload_n 1, 1) := by decide +kernel
theorem dX6_closeDown_115 : decode cX6_closeDown 115 = .ok (.aload_n 0, 1) := by decide +kernel
theorem dX6_closeDown_116 : decode cX6_closeDown 116 = .ok (.getfield 18, 3) := by decide +kernel
theorem dX6_closeDown_119 : decode cX6_closeDown 119 = .ok (.iload 9, 2) := by decide +kernel
theorem dX6_closeDown_121 : decode cX6_closeDown 121 = .ok (.iaload, 1) := by decide +kernel
theorem dX6_closeDown_122 : decode cX6_closeDown 122 = .ok (.iload 10, 2) := by decide +kernel
theorem dX6_closeDown_124 : decode cX6_closeDown 124 = .ok (.iload 6, 2) := by decide +kernel
theorem dX6_closeDown_126 : decode cX6_closeDown 126 = .ok (.iload 5, 2) := by decide +kernel
theorem dX6_closeDown_128 : decode cX6_closeDown 128 = .ok (.iconst 1, 1) := by decide +kernel
theorem dX6_closeDown_129 : decode cX6_closeDown 129 = .ok (.iadd, 1) := by decide +kernel
theorem dX6_closeDown_130 : decode cX6_closeDown 130 = .ok (.invokevirtual 96, 3) := by decide +kernel
theorem dX6_closeDown_133 : decode cX6_closeDown 133 = .ok (.iinc 9 1, 3) := by decide +kernel
theorem dX6_closeDown_136 : decode cX6_closeDown 136 = .ok (.goto (-88), 3) := by decide +kernel
theorem dX6_closeDown_139 : decode cX6_closeDown 139 = .ok (.return_, 1) := by decide +kernel
theorem dX7_init_0 : decode cX7_init 0 = .ok (.aload_n 0, 1) := by decide +kernel
theorem dX7_init_1 : decode cX7_init 1 = .ok (.invokespecial 3, 3) := by decide +kernel
theorem dX7_init_4 : decode cX7_init 4 = .ok (.aload_n 0, 1) := by decide +kernel
theorem dX7_init_5 : decode cX7_init 5 = .ok (.sipush 500, 3) := by decide +kernel
theorem dX7_init_8 : decode cX7_init 8 = .ok (.newarray .byte, 2) := by decide +kernel
theorem dX7_init_10 : decode cX7_init 10 = .ok (.putfield 9, 3) := by decide +kernel
theorem dX7_init_13 : decode cX7_init 13 = .ok (.aload_n 0, 1) := by decide +kernel
theorem dX7_init_14 : decode cX7_init 14 = .ok (.new 15, 3) := by decide +kernel
theorem dX7_init_17 : decode cX7_init 17 = .ok (.dup, 1) := by decide +kernel
theorem dX7_init_18 : decode cX7_init 18 = .ok (.invokespecial 17, 3) := by decide +kernel
theorem dX7_init_21 : decode cX7_init 21 = .ok (.putfield 18, 3) := by decide +kernel
theorem dX7_init_24 : decode cX7_init 24 = .ok (.aload_n 0, 1) := by decide +kernel
theorem dX7_init_25 : decode cX7_init 25 = .ok (.sipush 501, 3) := by decide +kernel
theorem dX7_init_28 : decode cX7_init 28 = .ok (.newarray .int, 2) := by decide +kernel
theorem dX7_init_30 : decode cX7_init 30 = .ok (.putfield 22, 3) := by decide +kernel
theorem dX7_init_33 : decode cX7_init 33 = .ok (.aload_n 0, 1) := by decide +kernel
theorem dX7_init_34 : decode cX7_init 34 = .ok (.sipush 501, 3) := by decide +kernel
theorem dX7_init_37 : decode cX7_init 37 = .ok (.newarray .int, 2) := by decide +kernel
theorem dX7_init_39 : decode cX7_init 39 = .ok (.putfield 26, 3) := by decide +kernel
theorem dX7_init_42 : decode cX7_init 42 = .ok (.aload_n 0, 1) := by decide +kernel
theorem dX7_init_43 : decode cX7_init 43 = .ok (.sipush 501, 3) := by decide +kernel
theorem dX7_init_46 : decode cX7_init 46 = .ok (.newarray .int, 2) := by decide +kernel
theorem dX7_init_48 : decode cX7_init 48 = .ok (.putfield 29, 3) := by decide +kernel
theorem dX7_init_51 : decode cX7_init 51 = .ok (.aload_n 0, 1) := by decide +kernel
theorem dX7_init_52 : decode cX7_init 52 = .ok (.sipush 500, 3) := by decide +kernel
theorem dX7_init_55 : decode cX7_init 55 = .ok (.newarray .int, 2) := by decide +kernel
theorem dX7_init_57 : decode cX7_init 57 = .ok (.putfield 32, 3) := by decide +kernel
theorem dX7_init_60 : decode cX7_init 60 = .ok (.return_, 1) := by decide +kernel
theorem dX7_put_0 : decode cX7_put 0 = .ok (.bipush 24, 2) := by decide +kernel
theorem dX7_put_2 : decode cX7_put 2 = .ok (.istore_n 2, 1) := by decide +kernel
theorem dX7_put_3 : decode cX7_put 3 = .ok (.iload_n 2, 1) := by decide +kernel
theorem dX7_put_4 : decode cX7_put 4 = .ok (.ifCond .lt 42, 3) := by decide +kernel
theorem dX7_put_7 : decode cX7_put 7 = .ok (.aload_n 0, 1) := by decide +kernel
theorem dX7_put_8 : decode cX7_put 8 = .ok (.getfield 35, 3) := by decide +kernel
theorem dX7_put_11 : decode cX7_put 11 = .ok (.sipush 500, 3) := by decide +kernel
theorem dX7_put_14 : decode cX7_put 14 = .ok (.if_icmp .ge 26, 3) := by decide +kernel
theorem dX7_put_17 : decode cX7_put 17 = .ok (.aload_n 0, 1) := by decide +kernel
theorem dX7_put_18 : decode cX7_put 18 = .ok (.getfield 9, 3) := by decide +kernel
theorem dX7_put_21 : decode cX7_put 21 = .ok (.aload_n 0, 1) := by decide +kernel
theorem dX7_put_22 : decode cX7_put 22 = .ok (.getfield 35, 3) := by decide +kernel
theorem dX7_put_25 : decode cX7_put 25 = .ok (.iload_n 1, 1) := by decide +kernel
theorem dX7_put_26 : decode cX7_put 26 = .ok (.iload_n 2, 1) := by decide +kernel
theorem dX7_put_27 : decode cX7_put 27 = .ok (.ishr, 1) := by decide +kernel
theorem dX7_put_28 : decode cX7_put 28 = .ok (.i2b, 1) := by decide +kernel
theorem dX7_put_29 : decode cX7_put 29 = .ok (.bastore, 1) := by decide +kernel
theorem dX7_put_30 : decode cX7_put 30 = .ok (.aload_n 0, 1) := by decide +kernel
theorem dX7_put_31 : decode cX7_put 31 = .ok (.dup, 1) := by decide +kernel
theorem dX7_put_32 : decode cX7_put 32 = .ok (.getfield 35, 3) := by decide +kernel
theorem dX7_put_35 : decode cX7_put 35 = .ok (.iconst 1, 1) := by decide +kernel
theorem dX7_put_36 : decode cX7_put 36 = .ok (.iadd, 1) := by decide +kernel
theorem dX7_put_37 : decode cX7_put 37 = .ok (.putfield 35, 3) := by decide +kernel
theorem dX7_put_40 : decode cX7_put 40 = .ok (.iinc 2 (-8), 3) := by decide +kernel
theorem dX7_put_43 : decode cX7_put 43 = .ok (.goto (-40), 3) := by decide +kernel
theorem dX7_put_46 : decode cX7_put 46 = .ok (.return_, 1) := by decide +kernel
theorem dX7_readTape_0 : decode cX7_readTape 0 = .ok (.aload_n 0, 1) := by decide +kernel
theorem dX7_readTape_1 : decode cX7_readTape 1 = .ok (.iload_n 1, 1) := by decide +kernel
theorem dX7_readTape_2 : decode cX7_readTape 2 = .ok (.aload_n 0, 1) := by decide +kernel
theorem dX7_readTape_3 : decode cX7_readTape 3 = .ok (.getfield 35, 3) := by decide +kernel
theorem dX7_readTape_6 : decode cX7_readTape 6 = .ok (.invokestatic 39, 3) := by decide +kernel
theorem dX7_readTape_9 : decode cX7_readTape 9 = .ok (.invokevirtual 45, 3) := by decide +kernel
theorem dX7_readTape_12 : decode cX7_readTape 12 = .ok (.aload_n 0, 1) := by decide +kernel
theorem dX7_readTape_13 : decode cX7_readTape 13 = .ok (.iconst 0, 1) := by decide +kernel
theorem dX7_readTape_14 : decode cX7_readTape 14 = .ok (.putfield 35, 3) := by decide +kernel
theorem dX7_readTape_17 : decode cX7_readTape 17 = .ok (.aload_n 0, 1) := by decide +kernel
theorem dX7_readTape_18 : decode cX7_readTape 18 = .ok (.iconst 0, 1) := by decide +kernel
theorem dX7_readTape_19 : decode cX7_readTape 19 = .ok (.putfield 49, 3) := by decide +kernel
theorem dX7_readTape_22 : decode cX7_readTape 22 = .ok (.aload_n 0, 1) := by decide +kernel
theorem dX7_readTape_23 : decode cX7_readTape 23 = .ok (.iconst (-1), 1) := by decide +kernel
theorem dX7_readTape_24 : decode cX7_readTape 24 = .ok (.putfield 52, 3) := by decide +kernel
theorem dX7_readTape_27 : decode cX7_readTape 27 = .ok (.aload_n 0, 1) := by decide +kernel
theorem dX7_readTape_28 : decode cX7_readTape 28 = .ok (.iconst 0, 1) := by decide +kernel
theorem dX7_readTape_29 : decode cX7_readTape 29 = .ok (.putfield 55, 3) := by decide +kernel
theorem dX7_readTape_32 : decode cX7_readTape 32 = .ok (.aload_n 0, 1) := by decide +kernel
theorem dX7_readTape_33 : decode cX7_readTape 33 = .ok (.iconst 0, 1) := by decide +kernel
theorem dX7_readTape_34 : decode cX7_readTape 34 = .ok (.putfield 58, 3) := by decide +kernel
theorem dX7_readTape_37 : decode cX7_readTape 37 = .ok (.aload_n 0, 1) := by decide +kernel
theorem dX7_readTape_38 : decode cX7_readTape 38 = .ok (.iconst 0, 1) := by decide +kernel
theorem dX7_readTape_39 : decode cX7_readTape 39 = .ok (.putfield 61, 3) := by decide +kernel
theorem dX7_readTape_42 : decode cX7_readTape 42 = .ok (.aload_n 0, 1) := by decide +kernel
theorem dX7_readTape_43 : decode cX7_readTape 43 = .ok (.getfield 18, 3) := by decide +kernel
theorem dX7_readTape_46 : decode cX7_readTape 46 = .ok (.invokevirtual 64, 3) := by decide +kernel
theorem dX7_readTape_49 : decode cX7_readTape 49 = .ok (.iconst 0, 1) := by decide +kernel
theorem dX7_readTape_50 : decode cX7_readTape 50 = .ok (.istore_n 2, 1) := by decide +kernel
theorem dX7_readTape_51 : decode cX7_readTape 51 = .ok (.iload_n 2, 1) := by decide +kernel
theorem dX7_readTape_52 : decode cX7_readTape 52 = .ok (.sipush 500, 3) := by decide +kernel
theorem dX7_readTape_55 : decode cX7_readTape 55 = .ok (.if_icmp .ge 38, 3) := by decide +kernel
theorem dX7_readTape_58 : decode cX7_readTape 58 = .ok (.aload_n 0, 1) := by decide +kernel
theorem dX7_readTape_59 : decode cX7_readTape 59 = .ok (.getfield 22, 3) := by decide +kernel
theorem dX7_readTape_62 : decode cX7_readTape 62 = .ok (.aload_n 0, 1) := by decide +kernel
theorem dX7_readTape_63 : decode cX7_readTape 63 = .ok (.getfield 55, 3) := by decide +kernel
theorem dX7_readTape_66 : decode cX7_readTape 66 = .ok (.iaload, 1) := by decide +kernel
theorem dX7_readTape_67 : decode cX7_readTape 67 = .ok (.ifCond .eq 26, 3) := by decide +kernel
theorem dX7_readTape_70 : decode cX7_readTape 70 = .ok (.aload_n 0, 1) := by decide +kernel
theorem dX7_readTape_71 : decode cX7_readTape 71 = .ok (.getfield 49, 3) := by decide +kernel
theorem dX7_readTape_74 : decode cX7_readTape 74 = .ok (.ifCond .ne 19, 3) := by decide +kernel
theorem dX7_readTape_77 : decode cX7_readTape 77 = .ok (.aload_n 0, 1) := by decide +kernel
theorem dX7_readTape_78 : decode cX7_readTape 78 = .ok (.invokevirtual 67, 3) := by decide +kernel
theorem dX7_readTape_81 : decode cX7_readTape 81 = .ok (.aload_n 0, 1) := by decide +kernel
theorem dX7_readTape_82 : decode cX7_readTape 82 = .ok (.bipush 59, 2) := by decide +kernel
theorem dX7_readTape_84 : decode cX7_readTape 84 = .ok (.invokevirtual 70, 3) := by decide +kernel
theorem dX7_readTape_87 : decode cX7_readTape 87 = .ok (.iinc 2 1, 3) := by decide +kernel
theorem dX7_readTape_90 : decode cX7_readTape 90 = .ok (.goto (-39), 3) := by decide +kernel
theorem dX7_readTape_93 : decode cX7_readTape 93 = .ok (.return_, 1) := by decide +kernel
theorem dX7_splitTape_0 : decode cX7_splitTape 0 = .ok (.aload_n 0, 1) := by decide +kernel
theorem dX7_splitTape_1 : decode cX7_splitTape 1 = .ok (.iconst 0, 1) := by decide +kernel
theorem dX7_splitTape_2 : decode cX7_splitTape 2 = .ok (.putfield 74, 3) := by decide +kernel
theorem dX7_splitTape_5 : decode cX7_splitTape 5 = .ok (.aload_n 0, 1) := by decide +kernel
theorem dX7_splitTape_6 : decode cX7_splitTape 6 = .ok (.iconst 0, 1) := by decide +kernel
theorem dX7_splitTape_7 : decode cX7_splitTape 7 = .ok (.iload_n 1, 1) := by decide +kernel
theorem dX7_splitTape_8 : decode cX7_splitTape 8 = .ok (.invokevirtual 77, 3) := by decide +kernel
theorem dX7_splitTape_11 : decode cX7_splitTape 11 = .ok (.istore_n 2, 1) := by decide +kernel
theorem dX7_splitTape_12 : decode cX7_splitTape 12 = .ok (.iconst 0, 1) := by decide +kernel
theorem dX7_splitTape_13 : decode cX7_splitTape 13 = .ok (.istore_n 3, 1) := by decide +kernel
theorem dX7_splitTape_14 : decode cX7_splitTape 14 = .ok (.iload_n 3, 1) := by decide +kernel
theorem dX7_splitTape_15 : decode cX7_splitTape 15 = .ok (.sipush 500, 3) := by decide +kernel
theorem dX7_splitTape_18 : decode cX7_splitTape 18 = .ok (.if_icmp .ge 111, 3) := by decide +kernel
theorem dX7_splitTape_21 : decode cX7_splitTape 21 = .ok (.iload_n 2, 1) := by decide +kernel
theorem dX7_splitTape_22 : decode cX7_splitTape 22 = .ok (.iload_n 1, 1) := by decide +kernel
theorem dX7_splitTape_23 : decode cX7_splitTape 23 = .ok (.if_icmp .ge 106, 3) := by decide +kernel
theorem dX7_splitTape_26 : decode cX7_splitTape 26 = .ok (.iload_n 2, 1) := by decide +kernel
theorem dX7_splitTape_27 : decode cX7_splitTape 27 = .ok (.iconst 1, 1) := by decide +kernel
theorem dX7_splitTape_28 : decode cX7_splitTape 28 = .ok (.iadd, 1) := by decide +kernel
theorem dX7_splitTape_29 : decode cX7_splitTape 29 = .ok (.istore 4, 2) := by decide +kernel
theorem dX7_splitTape_31 : decode cX7_splitTape 31 = .ok (.aload_n 0, 1) := by decide +kernel
theorem dX7_splitTape_32 : decode cX7_splitTape 32 = .ok (.getfield 9, 3) := by decide +kernel
theorem dX7_splitTape_35 : decode cX7_splitTape 35 = .ok (.iload_n 2, 1) := by decide +kernel
theorem dX7_splitTape_36 : decode cX7_splitTape 36 = .ok (.baload, 1) := by decide +kernel
theorem dX7_splitTape_37 : decode cX7_splitTape 37 = .ok (.invokestatic 80, 3) := by decide +kernel
theorem dX7_splitTape_40 : decode cX7_splitTape 40 = .ok (.ifCond .eq 27, 3) := by decide +kernel
theorem dX7_splitTape_43 : decode cX7_splitTape 43 = .ok (.aload_n 0, 1) := by decide +kernel
theorem dX7_splitTape_44 : decode cX7_splitTape 44 = .ok (.iload_n 2, 1) := by decide +kernel
theorem dX7_splitTape_45 : decode cX7_splitTape 45 = .ok (.iload_n 1, 1) := by decide +kernel
theorem dX7_splitTape_46 : decode cX7_splitTape 46 = .ok (.invokevirtual 84, 3) := by decide +kernel
theorem dX7_splitTape_49 : decode cX7_splitTape 49 = .ok (.istore 4, 2) := by decide +kernel
theorem dX7_splitTape_51 : decode cX7_splitTape 51 = .ok (.aload_n 0, 1) := by decide +kernel
theorem dX7_splitTape_52 : decode cX7_splitTape 52 = .ok (.iconst 1, 1) := by decide +kernel
theorem dX7_splitTape_53 : decode cX7_splitTape 53 = .ok (.iload_n 2, 1) := by decide +kernel
theorem dX7_splitTape_54 : decode cX7_splitTape 54 = .ok (.aload_n 0, 1) := by decide +kernel
theorem dX7_splitTape_55 : decode cX7_splitTape 55 = .ok (.iload_n 2, 1) := by decide +kernel
theorem dX7_splitTape_56 : decode cX7_splitTape 56 = .ok (.iload 4, 2) := by decide +kernel
theorem dX7_splitTape_58 : decode cX7_splitTape 58 = .ok (.invokevirtual 87, 3) := by decide +kernel
theorem dX7_splitTape_61 : decode cX7_splitTape 61 = .ok (.invokevirtual 90, 3) := by decide +kernel
theorem dX7_splitTape_64 : decode cX7_splitTape 64 = .ok (.goto 51, 3) := by decide +kernel
theorem dX7_splitTape_67 : decode cX7_splitTape 67 = .ok (.aload_n 0, 1) := by decide +kernel
theorem dX7_splitTape_68 : decode cX7_splitTape 68 = .ok (.getfield 9, 3) := by decide +kernel
theorem dX7_splitTape_71 : decode cX7_splitTape 71 = .ok (.iload_n 2, 1) := by decide +kernel
theorem dX7_splitTape_72 : decode cX7_splitTape 72 = .ok (.baload, 1) := by decide +kernel
theorem dX7_splitTape_73 : decode cX7_splitTape 73 = .ok (.invokestatic 94, 3) := by decide +kernel
theorem dX7_splitTape_76 : decode cX7_splitTape 76 = .ok (.ifCond .eq 27, 3) := by decide +kernel
theorem dX7_splitTape_79 : decode cX7_splitTape 79 = .ok (.aload_n 0, 1) := by decide +kernel
theorem dX7_splitTape_80 : decode cX7_splitTape 80 = .ok (.iload_n 2, 1) := by decide +kernel
theorem dX7_splitTape_81 : decode cX7_splitTape 81 = .ok (.iload_n 1, 1) := by decide +kernel
theorem dX7_splitTape_82 : decode cX7_splitTape 82 = .ok (.invokevirtual 97, 3) := by decide +kernel
theorem dX7_splitTape_85 : decode cX7_splitTape 85 = .ok (.istore 4, 2) := by decide +kernel
theorem dX7_splitTape_87 : decode cX7_splitTape 87 = .ok (.aload_n 0, 1) := by decide +kernel
theorem dX7_splitTape_88 : decode cX7_splitTape 88 = .ok (.iconst 2, 1) := by decide +kernel
theorem dX7_splitTape_89 : decode cX7_splitTape 89 = .ok (.iload_n 2, 1) := by decide +kernel
theorem dX7_splitTape_90 : decode cX7_splitTape 90 = .ok (.aload_n 0, 1) := by decide +kernel
theorem dX7_splitTape_91 : decode cX7_splitTape 91 = .ok (.iload_n 2, 1) := by decide +kernel
theorem dX7_splitTape_92 : decode cX7_splitTape 92 = .ok (.iload 4, 2) := by decide +kernel
theorem dX7_splitTape_94 : decode cX7_splitTape 94 = .ok (.invokevirtual 100, 3) := by decide +kernel
theorem dX7_splitTape_97 : decode cX7_splitTape 97 = .ok (.invokevirtual 90, 3) := by decide +kernel
theorem dX7_splitTape_100 : decode cX7_splitTape 100 = .ok (.goto 15, 3) := by decide +kernel
theorem dX7_splitTape_103 : decode cX7_splitTape 103 = .ok (.aload_n 0, 1) := by decide +kernel
theorem dX7_splitTape_104 : decode cX7_splitTape 104 = .ok (.iconst 3, 1) := by decide +kernel
theorem dX7_splitTape_105 : decode cX7_splitTape 105 = .ok (.iload_n 2, 1) := by decide +kernel
theorem dX7_splitTape_106 : decode cX7_splitTape 106 = .ok (.aload_n 0, 1) := by decide +kernel
theorem dX7_splitTape_107 : decode cX7_splitTape 107 = .ok (.getfield 9, 3) := by decide +kernel
theorem dX7_splitTape_110 : decode cX7_splitTape 110 = .ok (.iload_n 2, 1) := by decide +kernel
theorem dX7_splitTape_111 : decode cX7_splitTape 111 = .ok (.baload, 1) := by decide +kernel
theorem dX7_splitTape_112 : decode cX7_splitTape 112 = .ok (.invokevirtual 90, 3) := by decide +kernel
theorem dX7_splitTape_115 : decode cX7_splitTape 115 = .ok (.aload_n 0, 1) := by decide +kernel
theorem dX7_splitTape_116 : decode cX7_splitTape 116 = .ok (.iload 4, 2) := by decide +kernel
theorem dX7_splitTape_118 : decode cX7_splitTape 118 = .ok (.iload_n 1, 1) := by decide +kernel
theorem dX7_splitTape_119 : decode cX7_splitTape 119 = .ok (.invokevirtual 77, 3) := by decide +kernel
theorem dX7_splitTape_122 : decode cX7_splitTape 122 = .ok (.istore_n 2, 1) := by decide +kernel
theorem dX7_splitTape_123 : decode cX7_splitTape 123 = .ok (.iinc 3 1, 3) := by decide +kernel
theorem dX7_splitTape_126 : decode cX7_splitTape 126 = .ok (.goto (-112), 3) := by decide +kernel
theorem dX7_splitTape_129 : decode cX7_splitTape 129 = .ok (.aload_n 0, 1) := by decide +kernel
theorem dX7_splitTape_130 : decode cX7_splitTape 130 = .ok (.iconst 0, 1) := by decide +kernel
theorem dX7_splitTape_131 : decode cX7_splitTape 131 = .ok (.iload_n 1, 1) := by decide +kernel
theorem dX7_splitTape_132 : decode cX7_splitTape 132 = .ok (.iconst 0, 1) := by decide +kernel
theorem dX7_splitTape_133 : decode cX7_splitTape 133 = .ok (.invokevirtual 90, 3) := by decide +kernel
theorem dX7_splitTape_136 : decode cX7_splitTape 136 = .ok (.return_, 1) := by decide +kernel
theorem dX7_addToken_0 : decode cX7_addToken 0 = .ok (.aload_n 0, 1) := by decide +kernel
theorem dX7_addToken_1 : decode cX7_addToken 1 = .ok (.getfield 74, 3) := by decide +kernel
theorem dX7_addToken_4 : decode cX7_addToken 4 = .ok (.aload_n 0, 1) := by decide +kernel
theorem dX7_addToken_5 : decode cX7_addToken 5 = .ok (.getfield 22, 3) := by decide +kernel
theorem dX7_addToken_8 : decode cX7_addToken 8 = .ok (.arraylength, 1) := by decide +kernel
theorem dX7_addToken_9 : decode cX7_addToken 9 = .ok (.if_icmp .ge 43, 3) := by decide +kernel
theorem dX7_addToken_12 : decode cX7_addToken 12 = .ok (.aload_n 0, 1) := by decide +kernel
theorem dX7_addToken_13 : decode cX7_addToken 13 = .ok (.getfield 22, 3) := by decide +kernel
theorem dX7_addToken_16 : decode cX7_addToken 16 = .ok (.aload_n 0, 1) := by decide +kernel
theorem dX7_addToken_17 : decode cX7_addToken 17 = .ok (.getfield 74, 3) := by decide +kernel
theorem dX7_addToken_20 : decode cX7_addToken 20 = .ok (.iload_n 1, 1) := by decide +kernel
theorem dX7_addToken_21 : decode cX7_addToken 21 = .ok (.iastore, 1) := by decide +kernel
theorem dX7_addToken_22 : decode cX7_addToken 22 = .ok (.aload_n 0, 1) := by decide +kernel
theorem dX7_addToken_23 : decode cX7_addToken 23 = .ok (.getfield 26, 3) := by decide +kernel
theorem dX7_addToken_26 : decode cX7_addToken 26 = .ok (.aload_n 0, 1) := by decide +kernel
theorem dX7_addToken_27 : decode cX7_addToken 27 = .ok (.getfield 74, 3) := by decide +kernel
theorem dX7_addToken_30 : decode cX7_addToken 30 = .ok (.iload_n 2, 1) := by decide +kernel
theorem dX7_addToken_31 : decode cX7_addToken 31 = .ok (.iastore, 1) := by decide +kernel
theorem dX7_addToken_32 : decode cX7_addToken 32 = .ok (.aload_n 0, 1) := by decide +kernel
theorem dX7_addToken_33 : decode cX7_addToken 33 = .ok (.getfield 29, 3) := by decide +kernel
theorem dX7_addToken_36 : decode cX7_addToken 36 = .ok (.aload_n 0, 1) := by decide +kernel
theorem dX7_addToken_37 : decode cX7_addToken 37 = .ok (.getfield 74, 3) := by decide +kernel
theorem dX7_addToken_40 : decode cX7_addToken 40 = .ok (.iload_n 3, 1) := by decide +kernel
theorem dX7_addToken_41 : decode cX7_addToken 41 = .ok (.iastore, 1) := by decide +kernel
theorem dX7_addToken_42 : decode cX7_addToken 42 = .ok (.aload_n 0, 1) := by decide +kernel
theorem dX7_addToken_43 : decode cX7_addToken 43 = .ok (.dup, 1) := by decide +kernel
theorem dX7_addToken_44 : decode cX7_addToken 44 = .ok (.getfield 74, 3) := by decide +kernel
theorem dX7_addToken_47 : decode cX7_addToken 47 = .ok (.iconst 1, 1) := by decide +kernel
theorem dX7_addToken_48 : decode cX7_addToken 48 = .ok (.iadd, 1) := by decide +kernel
theorem dX7_addToken_49 : decode cX7_addToken 49 = .ok (.putfield 74, 3) := by decide +kernel
theorem dX7_addToken_52 : decode cX7_addToken 52 = .ok (.return_, 1) := by decide +kernel
theorem dX7_passBlanks_0 : decode cX7_passBlanks 0 = .ok (.iload_n 1, 1) := by decide +kernel
theorem dX7_passBlanks_1 : decode cX7_passBlanks 1 = .ok (.istore_n 3, 1) := by decide +kernel
theorem dX7_passBlanks_2 : decode cX7_passBlanks 2 = .ok (.iload_n 1, 1) := by decide +kernel
theorem dX7_passBlanks_3 : decode cX7_passBlanks 3 = .ok (.istore 4, 2) := by decide +kernel
theorem dX7_passBlanks_5 : decode cX7_passBlanks 5 = .ok (.iload 4, 2) := by decide +kernel
theorem dX7_passBlanks_7 : decode cX7_passBlanks 7 = .ok (.iload_n 2, 1) := by decide +kernel
theorem dX7_passBlanks_8 : decode cX7_passBlanks 8 = .ok (.if_icmp .ge 26, 3) := by decide +kernel
theorem dX7_passBlanks_11 : decode cX7_passBlanks 11 = .ok (.aload_n 0, 1) := by decide +kernel
theorem dX7_passBlanks_12 : decode cX7_passBlanks 12 = .ok (.getfield 9, 3) := by decide +kernel
theorem dX7_passBlanks_15 : decode cX7_passBlanks 15 = .ok (.iload 4, 2) := by decide +kernel
theorem dX7_passBlanks_17 : decode cX7_passBlanks 17 = .ok (.baload, 1) := by decide +kernel
theorem dX7_passBlanks_18 : decode cX7_passBlanks 18 = .ok (.bipush 32, 2) := by decide +kernel
theorem dX7_passBlanks_20 : decode cX7_passBlanks 20 = .ok (.if_icmp .ne 14, 3) := by decide +kernel
theorem dX7_passBlanks_23 : decode cX7_passBlanks 23 = .ok (.iload 4, 2) := by decide +kernel
theorem dX7_passBlanks_25 : decode cX7_passBlanks 25 = .ok (.iconst 1, 1) := by decide +kernel
theorem dX7_passBlanks_26 : decode cX7_passBlanks 26 = .ok (.iadd, 1) := by decide +kernel
theorem dX7_passBlanks_27 : decode cX7_passBlanks 27 = .ok (.istore_n 3, 1) := by decide +kernel
theorem dX7_passBlanks_28 : decode cX7_passBlanks 28 = .ok (.iinc 4 1, 3) := by decide +kernel
theorem dX7_passBlanks_31 : decode cX7_passBlanks 31 = .ok (.goto (-26), 3) := by decide +kernel
theorem dX7_passBlanks_34 : decode cX7_passBlanks 34 = .ok (.iload_n 3, 1) := by decide +kernel
theorem dX7_passBlanks_35 : decode cX7_passBlanks 35 = .ok (.ireturn, 1) := by decide +kernel
theorem dX7_passLetters_0 : decode cX7_passLetters 0 = .ok (.iload_n 1, 1) := by decide +kernel
theorem dX7_passLetters_1 : decode cX7_passLetters 1 = .ok (.istore_n 3, 1) := by decide +kernel
theorem dX7_passLetters_2 : decode cX7_passLetters 2 = .ok (.iload_n 1, 1) := by decide +kernel
theorem dX7_passLetters_3 : decode cX7_passLetters 3 = .ok (.istore 4, 2) := by decide +kernel
theorem dX7_passLetters_5 : decode cX7_passLetters 5 = .ok (.iload 4, 2) := by decide +kernel
theorem dX7_passLetters_7 : decode cX7_passLetters 7 = .ok (.iload_n 2, 1) := by decide +kernel
theorem dX7_passLetters_8 : decode cX7_passLetters 8 = .ok (.if_icmp .ge 27, 3) := by decide +kernel
theorem dX7_passLetters_11 : decode cX7_passLetters 11 = .ok (.aload_n 0, 1) := by decide +kernel
theorem dX7_passLetters_12 : decode cX7_passLetters 12 = .ok (.getfield 9, 3) := by decide +kernel
theorem dX7_passLetters_15 : decode cX7_passLetters 15 = .ok (.iload 4, 2) := by decide +kernel
theorem dX7_passLetters_17 : decode cX7_passLetters 17 = .ok (.baload, 1) := by decide +kernel
theorem dX7_passLetters_18 : decode cX7_passLetters 18 = .ok (.invokestatic 80, 3) := by decide +kernel
theorem dX7_passLetters_21 : decode cX7_passLetters 21 = .ok (.ifCond .eq 14, 3) := by decide +kernel
theorem dX7_passLetters_24 : decode cX7_passLetters 24 = .ok (.iload 4, 2) := by decide +kernel
theorem dX7_passLetters_26 : decode cX7_passLetters 26 = .ok (.iconst 1, 1) := by decide +kernel
theorem dX7_passLetters_27 : decode cX7_passLetters 27 = .ok (.iadd, 1) := by decide +kernel
theorem dX7_passLetters_28 : decode cX7_passLetters 28 = .ok (.istore_n 3, 1) := by decide +kernel
theorem dX7_passLetters_29 : decode cX7_passLetters 29 = .ok (.iinc 4 1, 3) := by decide +kernel
theorem dX7_passLetters_32 : decode cX7_passLetters 32 = .ok (.goto (-27), 3) := by decide +kernel
theorem dX7_passLetters_35 : decode cX7_passLetters 35 = .ok (.iload_n 3, 1) := by decide +kernel
theorem dX7_passLetters_36 : decode cX7_passLetters 36 = .ok (.ireturn, 1) := by decide +kernel
theorem dX7_passDigits_0 : decode cX7_passDigits 0 = .ok (.iload_n 1, 1) := by decide +kernel
theorem dX7_passDigits_1 : decode cX7_passDigits 1 = .ok (.istore_n 3, 1) := by decide +kernel
theorem dX7_passDigits_2 : decode cX7_passDigits 2 = .ok (.iload_n 1, 1) := by decide +kernel
theorem dX7_passDigits_3 : decode cX7_passDigits 3 = .ok (.istore 4, 2) := by decide +kernel
theorem dX7_passDigits_5 : decode cX7_passDigits 5 = .ok (.iload 4, 2) := by decide +kernel
theorem dX7_passDigits_7 : decode cX7_passDigits 7 = .ok (.iload_n 2, 1) := by decide +kernel
theorem dX7_passDigits_8 : decode cX7_passDigits 8 = .ok (.if_icmp .ge 27, 3) := by decide +kernel
theorem dX7_passDigits_11 : decode cX7_passDigits 11 = .ok (.aload_n 0, 1) := by decide +kernel
theorem dX7_passDigits_12 : decode cX7_passDigits 12 = .ok (.getfield 9, 3) := by decide +kernel
theorem dX7_passDigits_15 : decode cX7_passDigits 15 = .ok (.iload 4, 2) := by decide +kernel
theorem dX7_passDigits_17 : decode cX7_passDigits 17 = .ok (.baload, 1) := by decide +kernel
theorem dX7_passDigits_18 : decode cX7_passDigits 18 = .ok (.invokestatic 94, 3) := by decide +kernel
theorem dX7_passDigits_21 : decode cX7_passDigits 21 = .ok (.ifCond .eq 14, 3) := by decide +kernel
theorem dX7_passDigits_24 : decode cX7_passDigits 24 = .ok (.iload 4, 2) := by decide +kernel
theorem dX7_passDigits_26 : decode cX7_passDigits 26 = .ok (.iconst 1, 1) := by decide +kernel
theorem dX7_passDigits_27 : decode cX7_passDigits 27 = .ok (.iadd, 1) := by decide +kernel
theorem dX7_passDigits_28 : decode cX7_passDigits 28 = .ok (.istore_n 3, 1) := by decide +kernel
theorem dX7_passDigits_29 : decode cX7_passDigits 29 = .ok (.iinc 4 1, 3) := by decide +kernel
theorem dX7_passDigits_32 : decode cX7_passDigits 32 = .ok (.goto (-27), 3) := by decide +kernel
theorem dX7_passDigits_35 : decode cX7_passDigits 35 = .ok (.iload_n 3, 1) := by decide +kernel
theorem dX7_passDigits_36 : decode cX7_passDigits 36 = .ok (.ireturn, 1) := by decide +kernel
theorem dX7_isLetter_0 : decode cX7_isLetter 0 = .ok (.iload_n 0, 1) := by decide +kernel
theorem dX7_isLetter_1 : decode cX7_isLetter 1 = .ok (.bipush 97, 2) := by decide +kernel
theorem dX7_isLetter_3 : decode cX7_isLetter 3 = .ok (.if_icmp .lt 13, 3) := by decide +kernel
theorem dX7_isLetter_6 : decode cX7_isLetter 6 = .ok (.iload_n 0, 1) := by decide +kernel
theorem dX7_isLetter_7 : decode cX7_isLetter 7 = .ok (.bipush 122, 2) := by decide +kernel
theorem dX7_isLetter_9 : decode cX7_isLetter 9 = .ok (.if_icmp .gt 7, 3) := by decide +kernel
theorem dX7_isLetter_12 : decode cX7_isLetter 12 = .ok (.iconst 1, 1) := by decide +kernel
theorem dX7_isLetter_13 : decode cX7_isLetter 13 = .ok (.goto 4, 3) := by decide +kernel
theorem dX7_isLetter_16 : decode cX7_isLetter 16 = .ok (.iconst 0, 1) := by decide +kernel
theorem dX7_isLetter_17 : decode cX7_isLetter 17 = .ok (.ireturn, 1) := by decide +kernel
theorem dX7_isDigit_0 : decode cX7_isDigit 0 = .ok (.iload_n 0, 1) := by decide +kernel
theorem dX7_isDigit_1 : decode cX7_isDigit 1 = .ok (.bipush 48, 2) := by decide +kernel
theorem dX7_isDigit_3 : decode cX7_isDigit 3 = .ok (.if_icmp .lt 13, 3) := by decide +kernel
theorem dX7_isDigit_6 : decode cX7_isDigit 6 = .ok (.iload_n 0, 1) := by decide +kernel
theorem dX7_isDigit_7 : decode cX7_isDigit 7 = .ok (.bipush 57, 2) := by decide +kernel
theorem dX7_isDigit_9 : decode cX7_isDigit 9 = .ok (.if_icmp .gt 7, 3) := by decide +kernel
theorem dX7_isDigit_12 : decode cX7_isDigit 12 = .ok (.iconst 1, 1) := by decide +kernel
theorem dX7_isDigit_13 : decode cX7_isDigit 13 = .ok (.goto 4, 3) := by decide +kernel
theorem dX7_isDigit_16 : decode cX7_isDigit 16 = .ok (.iconst 0, 1) := by decide +kernel
theorem dX7_isDigit_17 : decode cX7_isDigit 17 = .ok (.ireturn, 1) := by decide +kernel
theorem dX7_numberAt_0 : decode cX7_numberAt 0 = .ok (.iconst 0, 1) := by decide +kernel
theorem dX7_numberAt_1 : decode cX7_numberAt 1 = .ok (.istore_n 3, 1) := by decide +kernel
theorem dX7_numberAt_2 : decode cX7_numberAt 2 = .ok (.iload_n 1, 1) := by decide +kernel
theorem dX7_numberAt_3 : decode cX7_numberAt 3 = .ok (.istore 4, 2) := by decide +kernel
theorem dX7_numberAt_5 : decode cX7_numberAt 5 = .ok (.iload 4, 2) := by decide +kernel
theorem dX7_numberAt_7 : decode cX7_numberAt 7 = .ok (.iload_n 2, 1) := by decide +kernel
theorem dX7_numberAt_8 : decode cX7_numberAt 8 = .ok (.if_icmp .ge 30, 3) := by decide +kernel
theorem dX7_numberAt_11 : decode cX7_numberAt 11 = .ok (.iload_n 3, 1) := by decide +kernel
theorem dX7_numberAt_12 : decode cX7_numberAt 12 = .ok (.bipush 10, 2) := by decide +kernel
theorem dX7_numberAt_14 : decode cX7_numberAt 14 = .ok (.imul, 1) := by decide +kernel
theorem dX7_numberAt_15 : decode cX7_numberAt 15 = .ok (.aload_n 0, 1) := by decide +kernel
theorem dX7_numberAt_16 : decode cX7_numberAt 16 = .ok (.getfield 9, 3) := by decide +kernel
theorem dX7_numberAt_19 : decode cX7_numberAt 19 = .ok (.iload 4, 2) := by decide +kernel
theorem dX7_numberAt_21 : decode cX7_numberAt 21 = .ok (.baload, 1) := by decide +kernel
theorem dX7_numberAt_22 : decode cX7_numberAt 22 = .ok (.iadd, 1) := by decide +kernel
theorem dX7_numberAt_23 : decode cX7_numberAt 23 = .ok (.bipush 48, 2) := by decide +kernel
theorem dX7_numberAt_25 : decode cX7_numberAt 25 = .ok (.isub, 1) := by decide +kernel
theorem dX7_numberAt_26 : decode cX7_numberAt 26 = .ok (.ldc 103, 2) := by decide +kernel
theorem dX7_numberAt_28 : decode cX7_numberAt 28 = .ok (.invokestatic 39, 3) := by decide +kernel
theorem dX7_numberAt_31 : decode cX7_numberAt 31 = .ok (.istore_n 3, 1) := by decide +kernel
theorem dX7_numberAt_32 : decode cX7_numberAt 32 = .ok (.iinc 4 1, 3) := by decide +kernel
theorem dX7_numberAt_35 : decode cX7_numberAt 35 = .ok (.goto (-30), 3) := by decide +kernel
theorem dX7_numberAt_38 : decode cX7_numberAt 38 = .ok (.iload_n 3, 1) := by decide +kernel
theorem dX7_numberAt_39 : decode cX7_numberAt 39 = .ok (.ireturn, 1) := by decide +kernel
theorem dX7_wordAt_0 : decode cX7_wordAt 0 = .ok (.aload_n 0, 1) := by decide +kernel
theorem dX7_wordAt_1 : decode cX7_wordAt 1 = .ok (.ldc 104, 2) := by decide +kernel
theorem dX7_wordAt_3 : decode cX7_wordAt 3 = .ok (.iload_n 1, 1) := by decide +kernel
theorem dX7_wordAt_4 : decode cX7_wordAt 4 = .ok (.iload_n 2, 1) := by decide +kernel
theorem dX7_wordAt_5 : decode cX7_wordAt 5 = .ok (.invokevirtual 106, 3) := by decide +kernel
theorem dX7_wordAt_8 : decode cX7_wordAt 8 = .ok (.ifCond .eq 5, 3) := by decide +kernel
theorem dX7_wordAt_11 : decode cX7_wordAt 11 = .ok (.iconst 1, 1) := by decide +kernel
theorem dX7_wordAt_12 : decode cX7_wordAt 12 = .ok (.ireturn, 1) := by decide +kernel
theorem dX7_wordAt_13 : decode cX7_wordAt 13 = .ok (.aload_n 0, 1) := by decide +kernel
theorem dX7_wordAt_14 : decode cX7_wordAt 14 = .ok (.ldc 110, 2) := by decide +kernel
theorem dX7_wordAt_16 : decode cX7_wordAt 16 = .ok (.iload_n 1, 1) := by decide +kernel
theorem dX7_wordAt_17 : decode cX7_wordAt 17 = .ok (.iload_n 2, 1) := by decide +kernel
theorem dX7_wordAt_18 : decode cX7_wordAt 18 = .ok (.invokevirtual 106, 3) := by decide +kernel
theorem dX7_wordAt_21 : decode cX7_wordAt 21 = .ok (.ifCond .eq 5, 3) := by decide +kernel
theorem dX7_wordAt_24 : decode cX7_wordAt 24 = .ok (.iconst 2, 1) := by decide +kernel
theorem dX7_wordAt_25 : decode cX7_wordAt 25 = .ok (.ireturn, 1) := by decide +kernel
theorem dX7_wordAt_26 : decode cX7_wordAt 26 = .ok (.aload_n 0, 1) := by decide +kernel
theorem dX7_wordAt_27 : decode cX7_wordAt 27 = .ok (.ldc 112, 2) := by decide +kernel
theorem dX7_wordAt_29 : decode cX7_wordAt 29 = .ok (.iload_n 1, 1) := by decide +kernel
theorem dX7_wordAt_30 : decode cX7_wordAt 30 = .ok (.iload_n 2, 1) := by decide +kernel
theorem dX7_wordAt_31 : decode cX7_wordAt 31 = .ok (.invokevirtual 106, 3) := by decide +kernel
theorem dX7_wordAt_34 : decode cX7_wordAt 34 = .ok (.ifCond .eq 5, 3) := by decide +kernel
theorem dX7_wordAt_37 : decode cX7_wordAt 37 = .ok (.iconst 3, 1) := by decide +kernel
theorem dX7_wordAt_38 : decode cX7_wordAt 38 = .ok (.ireturn, 1) := by decide +kernel
theorem dX7_wordAt_39 : decode cX7_wordAt 39 = .ok (.aload_n 0, 1) := by decide +kernel
theorem dX7_wordAt_40 : decode cX7_wordAt 40 = .ok (.ldc 114, 2) := by decide +kernel
theorem dX7_wordAt_42 : decode cX7_wordAt 42 = .ok (.iload_n 1, 1) := by decide +kernel
theorem dX7_wordAt_43 : decode cX7_wordAt 43 = .ok (.iload_n 2, 1) := by decide +kernel
theorem dX7_wordAt_44 : decode cX7_wordAt 44 = .ok (.invokevirtual 106, 3) := by decide +kernel
theorem dX7_wordAt_47 : decode cX7_wordAt 47 = .ok (.ifCond .eq 5, 3) := by decide +kernel
theorem dX7_wordAt_50 : decode cX7_wordAt 50 = .ok (.iconst 4, 1) := by decide +kernel
theorem dX7_wordAt_51 : decode cX7_wordAt 51 = .ok (.ireturn, 1) := by decide +kernel
theorem dX7_wordAt_52 : decode cX7_wordAt 52 = .ok (.aload_n 0, 1) := by decide +kernel
theorem dX7_wordAt_53 : decode cX7_wordAt 53 = .ok (.ldc 116, 2) := by decide +kernel
theorem dX7_wordAt_55 : decode cX7_wordAt 55 = .ok (.iload_n 1, 1) := by decide +kernel
theorem dX7_wordAt_56 : decode cX7_wordAt 56 = .ok (.iload_n 2, 1) := by decide +kernel
theorem dX7_wordAt_57 : decode cX7_wordAt 57 = .ok (.invokevirtual 106, 3) := by decide +kernel
theorem dX7_wordAt_60 : decode cX7_wordAt 60 = .ok (.ifCond .eq 5, 3) := by decide +kernel
theorem dX7_wordAt_63 : decode cX7_wordAt 63 = .ok (.iconst 5, 1) := by decide +kernel
theorem dX7_wordAt_64 : decode cX7_wordAt 64 = .ok (.ireturn, 1) := by decide +kernel
theorem dX7_wordAt_65 : decode cX7_wordAt 65 = .ok (.aload_n 0, 1) := by decide +kernel
theorem dX7_wordAt_66 : decode cX7_wordAt 66 = .ok (.ldc 118, 2) := by decide +kernel
theorem dX7_wordAt_68 : decode cX7_wordAt 68 = .ok (.iload_n 1, 1) := by decide +kernel
theorem dX7_wordAt_69 : decode cX7_wordAt 69 = .ok (.iload_n 2, 1) := by decide +kernel
theorem dX7_wordAt_70 : decode cX7_wordAt 70 = .ok (.invokevirtual 106, 3) := by decide +kernel
theorem dX7_wordAt_73 : decode cX7_wordAt 73 = .ok (.ifCond .eq 6, 3) := by decide +kernel
theorem dX7_wordAt_76 : decode cX7_wordAt 76 = .ok (.bipush 6, 2) := by decide +kernel
theorem dX7_wordAt_78 : decode cX7_wordAt 78 = .ok (.ireturn, 1) := by decide +kernel
theorem dX7_wordAt_79 : decode cX7_wordAt 79 = .ok (.aload_n 0, 1) := by decide +kernel
theorem dX7_wordAt_80 : decode cX7_wordAt 80 = .ok (.ldc 120, 2) := by decide +kernel
theorem dX7_wordAt_82 : decode cX7_wordAt 82 = .ok (.iload_n 1, 1) := by decide +kernel
theorem dX7_wordAt_83 : decode cX7_wordAt 83 = .ok (.iload_n 2, 1) := by decide +kernel
theorem dX7_wordAt_84 : decode cX7_wordAt 84 = .ok (.invokevirtual 106, 3) := by decide +kernel
theorem dX7_wordAt_87 : decode cX7_wordAt 87 = .ok (.ifCond .eq 8, 3) := by decide +kernel
theorem dX7_wordAt_90 : decode cX7_wordAt 90 = .ok (.bipush 7, 2) := by decide +kernel
theorem dX7_wordAt_92 : decode cX7_wordAt 92 = .ok (.goto 9, 3) := by decide +kernel
theorem dX7_wordAt_95 : decode cX7_wordAt 95 = .ok (.aload_n 0, 1) := by decide +kernel
theorem dX7_wordAt_96 : decode cX7_wordAt 96 = .ok (.iload_n 1, 1) := by decide +kernel
theorem dX7_wordAt_97 : decode cX7_wordAt 97 = .ok (.iload_n 2, 1) := by decide +kernel
theorem dX7_wordAt_98 : decode cX7_wordAt 98 = .ok (.invokevirtual 122, 3) := by decide +kernel
theorem dX7_wordAt_101 : decode cX7_wordAt 101 = .ok (.ireturn, 1) := by decide +kernel
theorem dX7_operandAt_0 : decode cX7_operandAt 0 = .ok (.aload_n 0, 1) := by decide +kernel
theorem dX7_operandAt_1 : decode cX7_operandAt 1 = .ok (.ldc 125, 2) := by decide +kernel
theorem dX7_operandAt_3 : decode cX7_operandAt 3 = .ok (.iload_n 1, 1) := by decide +kernel
theorem dX7_operandAt_4 : decode cX7_operandAt 4 = .ok (.iload_n 2, 1) := by decide +kernel
theorem dX7_operandAt_5 : decode cX7_operandAt 5 = .ok (.invokevirtual 106, 3) := by decide +kernel
theorem dX7_operandAt_8 : decode cX7_operandAt 8 = .ok (.ifCond .eq 5, 3) := by decide +kernel
theorem dX7_operandAt_11 : decode cX7_operandAt 11 = .ok (.iconst (-1), 1) := by decide +kernel
theorem dX7_operandAt_12 : decode cX7_operandAt 12 = .ok (.ireturn, 1) := by decide +kernel
theorem dX7_operandAt_13 : decode cX7_operandAt 13 = .ok (.aload_n 0, 1) := by decide +kernel
theorem dX7_operandAt_14 : decode cX7_operandAt 14 = .ok (.ldc 129, 2) := by decide +kernel
theorem dX7_operandAt_16 : decode cX7_operandAt 16 = .ok (.iload_n 1, 1) := by decide +kernel
theorem dX7_operandAt_17 : decode cX7_operandAt 17 = .ok (.iload_n 2, 1) := by decide +kernel
theorem dX7_operandAt_18 : decode cX7_operandAt 18 = .ok (.invokevirtual 106, 3) := by decide +kernel
theorem dX7_operandAt_21 : decode cX7_operandAt 21 = .ok (.ifCond .eq 6, 3) := by decide +kernel
theorem dX7_operandAt_24 : decode cX7_operandAt 24 = .ok (.bipush (-2), 2) := by decide +kernel
theorem dX7_operandAt_26 : decode cX7_operandAt 26 = .ok (.ireturn, 1) := by decide +kernel
theorem dX7_operandAt_27 : decode cX7_operandAt 27 = .ok (.aload_n 0, 1) := by decide +kernel
theorem dX7_operandAt_28 : decode cX7_operandAt 28 = .ok (.ldc 131, 2) := by decide +kernel
theorem dX7_operandAt_30 : decode cX7_operandAt 30 = .ok (.iload_n 1, 1) := by decide +kernel
theorem dX7_operandAt_31 : decode cX7_operandAt 31 = .ok (.iload_n 2, 1) := by decide +kernel
theorem dX7_operandAt_32 : decode cX7_operandAt 32 = .ok (.invokevirtual 106, 3) := by decide +kernel
theorem dX7_operandAt_35 : decode cX7_operandAt 35 = .ok (.ifCond .eq 6, 3) := by decide +kernel
theorem dX7_operandAt_38 : decode cX7_operandAt 38 = .ok (.bipush (-3), 2) := by decide +kernel
theorem dX7_operandAt_40 : decode cX7_operandAt 40 = .ok (.ireturn, 1) := by decide +kernel
theorem dX7_operandAt_41 : decode cX7_operandAt 41 = .ok (.aload_n 0, 1) := by decide +kernel
theorem dX7_operandAt_42 : decode cX7_operandAt 42 = .ok (.ldc 133, 2) := by decide +kernel
theorem dX7_operandAt_44 : decode cX7_operandAt 44 = .ok (.iload_n 1, 1) := by decide +kernel
theorem dX7_operandAt_45 : decode cX7_operandAt 45 = .ok (.iload_n 2, 1) := by decide +kernel
theorem dX7_operandAt_46 : decode cX7_operandAt 46 = .ok (.invokevirtual 106, 3) := by decide +kernel
theorem dX7_operandAt_49 : decode cX7_operandAt 49 = .ok (.ifCond .eq 6, 3) := by decide +kernel
theorem dX7_operandAt_52 : decode cX7_operandAt 52 = .ok (.bipush (-4), 2) := by decide +kernel
theorem dX7_operandAt_54 : decode cX7_operandAt 54 = .ok (.ireturn, 1) := by decide +kernel
theorem dX7_operandAt_55 : decode cX7_operandAt 55 = .ok (.aload_n 0, 1) := by decide +kernel
theorem dX7_operandAt_56 : decode cX7_operandAt 56 = .ok (.ldc 135, 2) := by decide +kernel
theorem dX7_operandAt_58 : decode cX7_operandAt 58 = .ok (.iload_n 1, 1) := by decide +kernel
theorem dX7_operandAt_59 : decode cX7_operandAt 59 = .ok (.iload_n 2, 1) := by decide +kernel
theorem dX7_operandAt_60 : decode cX7_operandAt 60 = .ok (.invokevirtual 106, 3) := by decide +kernel
theorem dX7_operandAt_63 : decode cX7_operandAt 63 = .ok (.ifCond .eq 6, 3) := by decide +kernel
theorem dX7_operandAt_66 : decode cX7_operandAt 66 = .ok (.bipush (-5), 2) := by decide +kernel
theorem dX7_operandAt_68 : decode cX7_operandAt 68 = .ok (.ireturn, 1) := by decide +kernel
theorem dX7_operandAt_69 : decode cX7_operandAt 69 = .ok (.aload_n 0, 1) := by decide +kernel
theorem dX7_operandAt_70 : decode cX7_operandAt 70 = .ok (.ldc 137, 2) := by decide +kernel
theorem dX7_operandAt_72 : decode cX7_operandAt 72 = .ok (.iload_n 1, 1) := by decide +kernel
theorem dX7_operandAt_73 : decode cX7_operandAt 73 = .ok (.iload_n 2, 1) := by decide +kernel
theorem dX7_operandAt_74 : decode cX7_operandAt 74 = .ok (.invokevirtual 106, 3) := by decide +kernel
theorem dX7_operandAt_77 : decode cX7_operandAt 77 = .ok (.ifCond .eq 6, 3) := by decide +kernel
theorem dX7_operandAt_80 : decode cX7_operandAt 80 = .ok (.bipush (-6), 2) := by decide +kernel
theorem dX7_operandAt_82 : decode cX7_operandAt 82 = .ok (.ireturn, 1) := by decide +kernel
theorem dX7_operandAt_83 : decode cX7_operandAt 83 = .ok (.aload_n 0, 1) := by decide +kernel
theorem dX7_operandAt_84 : decode cX7_operandAt 84 = .ok (.ldc 139, 2) := by decide +kernel
theorem dX7_operandAt_86 : decode cX7_operandAt 86 = .ok (.iload_n 1, 1) := by decide +kernel
theorem dX7_operandAt_87 : decode cX7_operandAt 87 = .ok (.iload_n 2, 1) := by decide +kernel
theorem dX7_operandAt_88 : decode cX7_operandAt 88 = .ok (.invokevirtual 106, 3) := by decide +kernel
theorem dX7_operandAt_91 : decode cX7_operandAt 91 = .ok (.ifCond .eq 8, 3) := by decide +kernel
theorem dX7_operandAt_94 : decode cX7_operandAt 94 = .ok (.bipush (-7), 2) := by decide +kernel
theorem dX7_operandAt_96 : decode cX7_operandAt 96 = .ok (.goto 4, 3) := by decide +kernel
theorem dX7_operandAt_99 : decode cX7_operandAt 99 = .ok (.iconst 0, 1) := by decide +kernel
theorem dX7_operandAt_100 : decode cX7_operandAt 100 = .ok (.ireturn, 1) := by decide +kernel
theorem dX7_spells_0 : decode cX7_spells 0 = .ok (.iload_n 3, 1) := by decide +kernel
theorem dX7_spells_1 : decode cX7_spells 1 = .ok (.iload_n 2, 1) := by decide +kernel
theorem dX7_spells_2 : decode cX7_spells 2 = .ok (.isub, 1) := by decide +kernel
theorem dX7_spells_3 : decode cX7_spells 3 = .ok (.aload_n 1, 1) := by decide +kernel
theorem dX7_spells_4 : decode cX7_spells 4 = .ok (.invokevirtual 141, 3) := by decide +kernel
theorem dX7_spells_7 : decode cX7_spells 7 = .ok (.if_icmp .eq 5, 3) := by decide +kernel
theorem dX7_spells_10 : decode cX7_spells 10 = .ok (.iconst 0, 1) := by decide +kernel
theorem dX7_spells_11 : decode cX7_spells 11 = .ok (.ireturn, 1) := by decide +kernel
theorem dX7_spells_12 : decode cX7_spells 12 = .ok (.iconst 0, 1) := by decide +kernel
theorem dX7_spells_13 : decode cX7_spells 13 = .ok (.istore 4, 2) := by decide +kernel
theorem dX7_spells_15 : decode cX7_spells 15 = .ok (.iload 4, 2) := by decide +kernel
theorem dX7_spells_17 : decode cX7_spells 17 = .ok (.aload_n 1, 1) := by decide +kernel
theorem dX7_spells_18 : decode cX7_spells 18 = .ok (.invokevirtual 141, 3) := by decide +kernel
theorem dX7_spells_21 : decode cX7_spells 21 = .ok (.if_icmp .ge 29, 3) := by decide +kernel
theorem dX7_spells_24 : decode cX7_spells 24 = .ok (.aload_n 0, 1) := by decide +kernel
theorem dX7_spells_25 : decode cX7_spells 25 = .ok (.getfield 9, 3) := by decide +kernel
theorem dX7_spells_28 : decode cX7_spells 28 = .ok (.iload_n 2, 1) := by decide +kernel
theorem dX7_spells_29 : decode cX7_spells 29 = .ok (.iload 4, 2) := by decide +kernel
theorem dX7_spells_31 : decode cX7_spells 31 = .ok (.iadd, 1) := by decide +kernel
theorem dX7_spells_32 : decode cX7_spells 32 = .ok (.baload, 1) := by decide +kernel
theorem dX7_spells_33 : decode cX7_spells 33 = .ok (.aload_n 1, 1) := by decide +kernel
