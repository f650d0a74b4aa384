theorem dX7_spells_34 : decode cX7_spells 34 = .ok (.iload 4, 2) := by decide +kernel
theorem dX7_spells_36 : decode cX7_spells 36 = .ok (.invokevirtual 147, 3) := by decide +kernel
theorem dX7_spells_39 : decode cX7_spells 39 = .ok (.if_icmp .eq 5, 3) := by decide +kernel
theorem dX7_spells_42 : decode cX7_spells 42 = .ok (.iconst 0, 1) := by decide +kernel
theorem dX7_spells_43 : decode cX7_spells 43 = .ok (.ireturn, 1) := by decide +kernel
theorem dX7_spells_44 : decode cX7_spells 44 = .ok (.iinc 4 1, 3) := by decide +kernel
theorem dX7_spells_47 : decode cX7_spells 47 = .ok (.goto (-32), 3) := by decide +kernel
theorem dX7_spells_50 : decode cX7_spells 50 = .ok (.iconst 1, 1) := by decide +kernel
theorem dX7_spells_51 : decode cX7_spells 51 = .ok (.ireturn, 1) := by decide +kernel
theorem dX7_readLine_0 : decode cX7_readLine 0 = .ok (.aload_n 0, 1) := by decide +kernel
theorem dX7_readLine_1 : decode cX7_readLine 1 = .ok (.getfield 22, 3) := by decide +kernel
theorem dX7_readLine_4 : decode cX7_readLine 4 = .ok (.aload_n 0, 1) := by decide +kernel
theorem dX7_readLine_5 : decode cX7_readLine 5 = .ok (.getfield 55, 3) := by decide +kernel
theorem dX7_readLine_8 : decode cX7_readLine 8 = .ok (.iaload, 1) := by decide +kernel
theorem dX7_readLine_9 : decode cX7_readLine 9 = .ok (.iconst 1, 1) := by decide +kernel
theorem dX7_readLine_10 : decode cX7_readLine 10 = .ok (.if_icmp .ne 15, 3) := by decide +kernel
theorem dX7_readLine_13 : decode cX7_readLine 13 = .ok (.aload_n 0, 1) := by decide +kernel
theorem dX7_readLine_14 : decode cX7_readLine 14 = .ok (.getfield 29, 3) := by decide +kernel
theorem dX7_readLine_17 : decode cX7_readLine 17 = .ok (.aload_n 0, 1) := by decide +kernel
theorem dX7_readLine_18 : decode cX7_readLine 18 = .ok (.getfield 55, 3) := by decide +kernel
theorem dX7_readLine_21 : decode cX7_readLine 21 = .ok (.iaload, 1) := by decide +kernel
theorem dX7_readLine_22 : decode cX7_readLine 22 = .ok (.goto 4, 3) := by decide +kernel
theorem dX7_readLine_25 : decode cX7_readLine 25 = .ok (.iconst 0, 1) := by decide +kernel
theorem dX7_readLine_26 : decode cX7_readLine 26 = .ok (.tableswitch 149 1 7 #[42, 49, 56, 75, 93, 111, 131], 42) := by decide +kernel
theorem dX7_readLine_68 : decode cX7_readLine 68 = .ok (.aload_n 0, 1) := by decide +kernel
theorem dX7_readLine_69 : decode cX7_readLine 69 = .ok (.invokevirtual 151, 3) := by decide +kernel
theorem dX7_readLine_72 : decode cX7_readLine 72 = .ok (.goto 108, 3) := by decide +kernel
theorem dX7_readLine_75 : decode cX7_readLine 75 = .ok (.aload_n 0, 1) := by decide +kernel
theorem dX7_readLine_76 : decode cX7_readLine 76 = .ok (.invokevirtual 154, 3) := by decide +kernel
theorem dX7_readLine_79 : decode cX7_readLine 79 = .ok (.goto 101, 3) := by decide +kernel
theorem dX7_readLine_82 : decode cX7_readLine 82 = .ok (.aload_n 0, 1) := by decide +kernel
theorem dX7_readLine_83 : decode cX7_readLine 83 = .ok (.getfield 18, 3) := by decide +kernel
theorem dX7_readLine_86 : decode cX7_readLine 86 = .ok (.aload_n 0, 1) := by decide +kernel
theorem dX7_readLine_87 : decode cX7_readLine 87 = .ok (.iconst 3, 1) := by decide +kernel
theorem dX7_readLine_88 : decode cX7_readLine 88 = .ok (.iconst 0, 1) := by decide +kernel
theorem dX7_readLine_89 : decode cX7_readLine 89 = .ok (.sipush 999, 3) := by decide +kernel
theorem dX7_readLine_92 : decode cX7_readLine 92 = .ok (.invokevirtual 157, 3) := by decide +kernel
theorem dX7_readLine_95 : decode cX7_readLine 95 = .ok (.putfield 161, 3) := by decide +kernel
theorem dX7_readLine_98 : decode cX7_readLine 98 = .ok (.goto 82, 3) := by decide +kernel
theorem dX7_readLine_101 : decode cX7_readLine 101 = .ok (.aload_n 0, 1) := by decide +kernel
theorem dX7_readLine_102 : decode cX7_readLine 102 = .ok (.getfield 18, 3) := by decide +kernel
theorem dX7_readLine_105 : decode cX7_readLine 105 = .ok (.aload_n 0, 1) := by decide +kernel
theorem dX7_readLine_106 : decode cX7_readLine 106 = .ok (.iconst 4, 1) := by decide +kernel
theorem dX7_readLine_107 : decode cX7_readLine 107 = .ok (.iconst 1, 1) := by decide +kernel
theorem dX7_readLine_108 : decode cX7_readLine 108 = .ok (.bipush 100, 2) := by decide +kernel
theorem dX7_readLine_110 : decode cX7_readLine 110 = .ok (.invokevirtual 157, 3) := by decide +kernel
theorem dX7_readLine_113 : decode cX7_readLine 113 = .ok (.putfield 163, 3) := by decide +kernel
theorem dX7_readLine_116 : decode cX7_readLine 116 = .ok (.goto 64, 3) := by decide +kernel
theorem dX7_readLine_119 : decode cX7_readLine 119 = .ok (.aload_n 0, 1) := by decide +kernel
theorem dX7_readLine_120 : decode cX7_readLine 120 = .ok (.getfield 18, 3) := by decide +kernel
theorem dX7_readLine_123 : decode cX7_readLine 123 = .ok (.aload_n 0, 1) := by decide +kernel
theorem dX7_readLine_124 : decode cX7_readLine 124 = .ok (.iconst 5, 1) := by decide +kernel
theorem dX7_readLine_125 : decode cX7_readLine 125 = .ok (.iconst 0, 1) := by decide +kernel
theorem dX7_readLine_126 : decode cX7_readLine 126 = .ok (.bipush 30, 2) := by decide +kernel
theorem dX7_readLine_128 : decode cX7_readLine 128 = .ok (.invokevirtual 157, 3) := by decide +kernel
theorem dX7_readLine_131 : decode cX7_readLine 131 = .ok (.putfield 165, 3) := by decide +kernel
theorem dX7_readLine_134 : decode cX7_readLine 134 = .ok (.goto 46, 3) := by decide +kernel
theorem dX7_readLine_137 : decode cX7_readLine 137 = .ok (.aload_n 0, 1) := by decide +kernel
theorem dX7_readLine_138 : decode cX7_readLine 138 = .ok (.getfield 18, 3) := by decide +kernel
theorem dX7_readLine_141 : decode cX7_readLine 141 = .ok (.aload_n 0, 1) := by decide +kernel
theorem dX7_readLine_142 : decode cX7_readLine 142 = .ok (.bipush 6, 2) := by decide +kernel
theorem dX7_readLine_144 : decode cX7_readLine 144 = .ok (.iconst 1, 1) := by decide +kernel
theorem dX7_readLine_145 : decode cX7_readLine 145 = .ok (.sipush 10000, 3) := by decide +kernel
theorem dX7_readLine_148 : decode cX7_readLine 148 = .ok (.invokevirtual 157, 3) := by decide +kernel
theorem dX7_readLine_151 : decode cX7_readLine 151 = .ok (.putfield 168, 3) := by decide +kernel
theorem dX7_readLine_154 : decode cX7_readLine 154 = .ok (.goto 26, 3) := by decide +kernel
theorem dX7_readLine_157 : decode cX7_readLine 157 = .ok (.aload_n 0, 1) := by decide +kernel
theorem dX7_readLine_158 : decode cX7_readLine 158 = .ok (.bipush 7, 2) := by decide +kernel
theorem dX7_readLine_160 : decode cX7_readLine 160 = .ok (.invokevirtual 170, 3) := by decide +kernel
theorem dX7_readLine_163 : decode cX7_readLine 163 = .ok (.aload_n 0, 1) := by decide +kernel
theorem dX7_readLine_164 : decode cX7_readLine 164 = .ok (.iconst 0, 1) := by decide +kernel
theorem dX7_readLine_165 : decode cX7_readLine 165 = .ok (.invokevirtual 173, 3) := by decide +kernel
theorem dX7_readLine_168 : decode cX7_readLine 168 = .ok (.aload_n 0, 1) := by decide +kernel
theorem dX7_readLine_169 : decode cX7_readLine 169 = .ok (.invokevirtual 176, 3) := by decide +kernel
theorem dX7_readLine_172 : decode cX7_readLine 172 = .ok (.goto 8, 3) := by decide +kernel
theorem dX7_readLine_175 : decode cX7_readLine 175 = .ok (.aload_n 0, 1) := by decide +kernel
theorem dX7_readLine_176 : decode cX7_readLine 176 = .ok (.iconst 1, 1) := by decide +kernel
theorem dX7_readLine_177 : decode cX7_readLine 177 = .ok (.invokevirtual 179, 3) := by decide +kernel
theorem dX7_readLine_180 : decode cX7_readLine 180 = .ok (.return_, 1) := by decide +kernel
theorem dX7_readDealer_0 : decode cX7_readDealer 0 = .ok (.aload_n 0, 1) := by decide +kernel
theorem dX7_readDealer_1 : decode cX7_readDealer 1 = .ok (.getfield 18, 3) := by decide +kernel
theorem dX7_readDealer_4 : decode cX7_readDealer 4 = .ok (.getfield 182, 3) := by decide +kernel
theorem dX7_readDealer_7 : decode cX7_readDealer 7 = .ok (.bipush 8, 2) := by decide +kernel
theorem dX7_readDealer_9 : decode cX7_readDealer 9 = .ok (.if_icmp .lt 9, 3) := by decide +kernel
theorem dX7_readDealer_12 : decode cX7_readDealer 12 = .ok (.aload_n 0, 1) := by decide +kernel
theorem dX7_readDealer_13 : decode cX7_readDealer 13 = .ok (.iconst 3, 1) := by decide +kernel
theorem dX7_readDealer_14 : decode cX7_readDealer 14 = .ok (.invokevirtual 179, 3) := by decide +kernel
theorem dX7_readDealer_17 : decode cX7_readDealer 17 = .ok (.return_, 1) := by decide +kernel
theorem dX7_readDealer_18 : decode cX7_readDealer 18 = .ok (.aload_n 0, 1) := by decide +kernel
theorem dX7_readDealer_19 : decode cX7_readDealer 19 = .ok (.invokevirtual 185, 3) := by decide +kernel
theorem dX7_readDealer_22 : decode cX7_readDealer 22 = .ok (.aload_n 0, 1) := by decide +kernel
theorem dX7_readDealer_23 : decode cX7_readDealer 23 = .ok (.iconst 0, 1) := by decide +kernel
theorem dX7_readDealer_24 : decode cX7_readDealer 24 = .ok (.sipush 9999, 3) := by decide +kernel
theorem dX7_readDealer_27 : decode cX7_readDealer 27 = .ok (.iconst (-1), 1) := by decide +kernel
theorem dX7_readDealer_28 : decode cX7_readDealer 28 = .ok (.invokevirtual 188, 3) := by decide +kernel
theorem dX7_readDealer_31 : decode cX7_readDealer 31 = .ok (.istore_n 1, 1) := by decide +kernel
theorem dX7_readDealer_32 : decode cX7_readDealer 32 = .ok (.aload_n 0, 1) := by decide +kernel
theorem dX7_readDealer_33 : decode cX7_readDealer 33 = .ok (.getfield 49, 3) := by decide +kernel
theorem dX7_readDealer_36 : decode cX7_readDealer 36 = .ok (.ifCond .ne 11, 3) := by decide +kernel
theorem dX7_readDealer_39 : decode cX7_readDealer 39 = .ok (.aload_n 0, 1) := by decide +kernel
theorem dX7_readDealer_40 : decode cX7_readDealer 40 = .ok (.getfield 18, 3) := by decide +kernel
theorem dX7_readDealer_43 : decode cX7_readDealer 43 = .ok (.iload_n 1, 1) := by decide +kernel
theorem dX7_readDealer_44 : decode cX7_readDealer 44 = .ok (.invokevirtual 191, 3) := by decide +kernel
theorem dX7_readDealer_47 : decode cX7_readDealer 47 = .ok (.return_, 1) := by decide +kernel
theorem dX7_readSale_0 : decode cX7_readSale 0 = .ok (.aload_n 0, 1) := by decide +kernel
theorem dX7_readSale_1 : decode cX7_readSale 1 = .ok (.getfield 18, 3) := by decide +kernel
theorem dX7_readSale_4 : decode cX7_readSale 4 = .ok (.getfield 194, 3) := by decide +kernel
theorem dX7_readSale_7 : decode cX7_readSale 7 = .ok (.bipush 24, 2) := by decide +kernel
theorem dX7_readSale_9 : decode cX7_readSale 9 = .ok (.if_icmp .lt 9, 3) := by decide +kernel
theorem dX7_readSale_12 : decode cX7_readSale 12 = .ok (.aload_n 0, 1) := by decide +kernel
theorem dX7_readSale_13 : decode cX7_readSale 13 = .ok (.iconst 3, 1) := by decide +kernel
theorem dX7_readSale_14 : decode cX7_readSale 14 = .ok (.invokevirtual 179, 3) := by decide +kernel
theorem dX7_readSale_17 : decode cX7_readSale 17 = .ok (.return_, 1) := by decide +kernel
theorem dX7_readSale_18 : decode cX7_readSale 18 = .ok (.aload_n 0, 1) := by decide +kernel
theorem dX7_readSale_19 : decode cX7_readSale 19 = .ok (.invokevirtual 185, 3) := by decide +kernel
theorem dX7_readSale_22 : decode cX7_readSale 22 = .ok (.aload_n 0, 1) := by decide +kernel
theorem dX7_readSale_23 : decode cX7_readSale 23 = .ok (.iconst 0, 1) := by decide +kernel
theorem dX7_readSale_24 : decode cX7_readSale 24 = .ok (.aload_n 0, 1) := by decide +kernel
theorem dX7_readSale_25 : decode cX7_readSale 25 = .ok (.getfield 18, 3) := by decide +kernel
theorem dX7_readSale_28 : decode cX7_readSale 28 = .ok (.getfield 182, 3) := by decide +kernel
theorem dX7_readSale_31 : decode cX7_readSale 31 = .ok (.iconst 1, 1) := by decide +kernel
theorem dX7_readSale_32 : decode cX7_readSale 32 = .ok (.isub, 1) := by decide +kernel
theorem dX7_readSale_33 : decode cX7_readSale 33 = .ok (.iconst (-1), 1) := by decide +kernel
theorem dX7_readSale_34 : decode cX7_readSale 34 = .ok (.invokevirtual 188, 3) := by decide +kernel
theorem dX7_readSale_37 : decode cX7_readSale 37 = .ok (.istore_n 1, 1) := by decide +kernel
theorem dX7_readSale_38 : decode cX7_readSale 38 = .ok (.aload_n 0, 1) := by decide +kernel
theorem dX7_readSale_39 : decode cX7_readSale 39 = .ok (.iconst 0, 1) := by decide +kernel
theorem dX7_readSale_40 : decode cX7_readSale 40 = .ok (.aload_n 0, 1) := by decide +kernel
theorem dX7_readSale_41 : decode cX7_readSale 41 = .ok (.getfield 18, 3) := by decide +kernel
theorem dX7_readSale_44 : decode cX7_readSale 44 = .ok (.getfield 182, 3) := by decide +kernel
theorem dX7_readSale_47 : decode cX7_readSale 47 = .ok (.iconst 1, 1) := by decide +kernel
theorem dX7_readSale_48 : decode cX7_readSale 48 = .ok (.isub, 1) := by decide +kernel
theorem dX7_readSale_49 : decode cX7_readSale 49 = .ok (.iload_n 1, 1) := by decide +kernel
theorem dX7_readSale_50 : decode cX7_readSale 50 = .ok (.invokevirtual 188, 3) := by decide +kernel
theorem dX7_readSale_53 : decode cX7_readSale 53 = .ok (.istore_n 2, 1) := by decide +kernel
theorem dX7_readSale_54 : decode cX7_readSale 54 = .ok (.aload_n 0, 1) := by decide +kernel
theorem dX7_readSale_55 : decode cX7_readSale 55 = .ok (.iconst 1, 1) := by decide +kernel
theorem dX7_readSale_56 : decode cX7_readSale 56 = .ok (.sipush 1000, 3) := by decide +kernel
theorem dX7_readSale_59 : decode cX7_readSale 59 = .ok (.iconst (-1), 1) := by decide +kernel
theorem dX7_readSale_60 : decode cX7_readSale 60 = .ok (.invokevirtual 188, 3) := by decide +kernel
theorem dX7_readSale_63 : decode cX7_readSale 63 = .ok (.istore_n 3, 1) := by decide +kernel
theorem dX7_readSale_64 : decode cX7_readSale 64 = .ok (.aload_n 0, 1) := by decide +kernel
theorem dX7_readSale_65 : decode cX7_readSale 65 = .ok (.iconst 1, 1) := by decide +kernel
theorem dX7_readSale_66 : decode cX7_readSale 66 = .ok (.sipush 10000, 3) := by decide +kernel
theorem dX7_readSale_69 : decode cX7_readSale 69 = .ok (.iconst (-1), 1) := by decide +kernel
theorem dX7_readSale_70 : decode cX7_readSale 70 = .ok (.invokevirtual 188, 3) := by decide +kernel
theorem dX7_readSale_73 : decode cX7_readSale 73 = .ok (.istore 4, 2) := by decide +kernel
theorem dX7_readSale_75 : decode cX7_readSale 75 = .ok (.aload_n 0, 1) := by decide +kernel
theorem dX7_readSale_76 : decode cX7_readSale 76 = .ok (.iconst 0, 1) := by decide +kernel
theorem dX7_readSale_77 : decode cX7_readSale 77 = .ok (.sipush 999, 3) := by decide +kernel
theorem dX7_readSale_80 : decode cX7_readSale 80 = .ok (.iconst (-1), 1) := by decide +kernel
theorem dX7_readSale_81 : decode cX7_readSale 81 = .ok (.invokevirtual 188, 3) := by decide +kernel
theorem dX7_readSale_84 : decode cX7_readSale 84 = .ok (.istore 5, 2) := by decide +kernel
theorem dX7_readSale_86 : decode cX7_readSale 86 = .ok (.aload_n 0, 1) := by decide +kernel
theorem dX7_readSale_87 : decode cX7_readSale 87 = .ok (.getfield 49, 3) := by decide +kernel
theorem dX7_readSale_90 : decode cX7_readSale 90 = .ok (.ifCond .ne 17, 3) := by decide +kernel
theorem dX7_readSale_93 : decode cX7_readSale 93 = .ok (.aload_n 0, 1) := by decide +kernel
theorem dX7_readSale_94 : decode cX7_readSale 94 = .ok (.getfield 18, 3) := by decide +kernel
theorem dX7_readSale_97 : decode cX7_readSale 97 = .ok (.iload_n 1, 1) := by decide +kernel
theorem dX7_readSale_98 : decode cX7_readSale 98 = .ok (.iload_n 2, 1) := by decide +kernel
theorem dX7_readSale_99 : decode cX7_readSale 99 = .ok (.iload_n 3, 1) := by decide +kernel
theorem dX7_readSale_100 : decode cX7_readSale 100 = .ok (.iload 4, 2) := by decide +kernel
theorem dX7_readSale_102 : decode cX7_readSale 102 = .ok (.iload 5, 2) := by decide +kernel
theorem dX7_readSale_104 : decode cX7_readSale 104 = .ok (.invokevirtual 197, 3) := by decide +kernel
theorem dX7_readSale_107 : decode cX7_readSale 107 = .ok (.return_, 1) := by decide +kernel
theorem dX7_readOnce_0 : decode cX7_readOnce 0 = .ok (.aload_n 0, 1) := by decide +kernel
theorem dX7_readOnce_1 : decode cX7_readOnce 1 = .ok (.iload_n 1, 1) := by decide +kernel
theorem dX7_readOnce_2 : decode cX7_readOnce 2 = .ok (.invokevirtual 170, 3) := by decide +kernel
theorem dX7_readOnce_5 : decode cX7_readOnce 5 = .ok (.aload_n 0, 1) := by decide +kernel
theorem dX7_readOnce_6 : decode cX7_readOnce 6 = .ok (.iload_n 2, 1) := by decide +kernel
theorem dX7_readOnce_7 : decode cX7_readOnce 7 = .ok (.iload_n 3, 1) := by decide +kernel
theorem dX7_readOnce_8 : decode cX7_readOnce 8 = .ok (.iconst (-1), 1) := by decide +kernel
theorem dX7_readOnce_9 : decode cX7_readOnce 9 = .ok (.invokevirtual 188, 3) := by decide +kernel
theorem dX7_readOnce_12 : decode cX7_readOnce 12 = .ok (.ireturn, 1) := by decide +kernel
theorem dX7_takeOnce_0 : decode cX7_takeOnce 0 = .ok (.aload_n 0, 1) := by decide +kernel
theorem dX7_takeOnce_1 : decode cX7_takeOnce 1 = .ok (.getfield 58, 3) := by decide +kernel
theorem dX7_takeOnce_4 : decode cX7_takeOnce 4 = .ok (.iload_n 1, 1) := by decide +kernel
theorem dX7_takeOnce_5 : decode cX7_takeOnce 5 = .ok (.ishr, 1) := by decide +kernel
theorem dX7_takeOnce_6 : decode cX7_takeOnce 6 = .ok (.iconst 1, 1) := by decide +kernel
theorem dX7_takeOnce_7 : decode cX7_takeOnce 7 = .ok (.iand, 1) := by decide +kernel
theorem dX7_takeOnce_8 : decode cX7_takeOnce 8 = .ok (.ifCond .eq 9, 3) := by decide +kernel
theorem dX7_takeOnce_11 : decode cX7_takeOnce 11 = .ok (.aload_n 0, 1) := by decide +kernel
theorem dX7_takeOnce_12 : decode cX7_takeOnce 12 = .ok (.iconst 1, 1) := by decide +kernel
theorem dX7_takeOnce_13 : decode cX7_takeOnce 13 = .ok (.invokevirtual 179, 3) := by decide +kernel
theorem dX7_takeOnce_16 : decode cX7_takeOnce 16 = .ok (.return_, 1) := by decide +kernel
theorem dX7_takeOnce_17 : decode cX7_takeOnce 17 = .ok (.aload_n 0, 1) := by decide +kernel
theorem dX7_takeOnce_18 : decode cX7_takeOnce 18 = .ok (.dup, 1) := by decide +kernel
theorem dX7_takeOnce_19 : decode cX7_takeOnce 19 = .ok (.getfield 58, 3) := by decide +kernel
theorem dX7_takeOnce_22 : decode cX7_takeOnce 22 = .ok (.iconst 1, 1) := by decide +kernel
theorem dX7_takeOnce_23 : decode cX7_takeOnce 23 = .ok (.iload_n 1, 1) := by decide +kernel
theorem dX7_takeOnce_24 : decode cX7_takeOnce 24 = .ok (.ishl, 1) := by decide +kernel
theorem dX7_takeOnce_25 : decode cX7_takeOnce 25 = .ok (.ior, 1) := by decide +kernel
theorem dX7_takeOnce_26 : decode cX7_takeOnce 26 = .ok (.putfield 58, 3) := by decide +kernel
theorem dX7_takeOnce_29 : decode cX7_takeOnce 29 = .ok (.aload_n 0, 1) := by decide +kernel
theorem dX7_takeOnce_30 : decode cX7_takeOnce 30 = .ok (.invokevirtual 185, 3) := by decide +kernel
theorem dX7_takeOnce_33 : decode cX7_takeOnce 33 = .ok (.return_, 1) := by decide +kernel
theorem dX7_keepRule_0 : decode cX7_keepRule 0 = .ok (.aload_n 0, 1) := by decide +kernel
theorem dX7_keepRule_1 : decode cX7_keepRule 1 = .ok (.getfield 49, 3) := by decide +kernel
theorem dX7_keepRule_4 : decode cX7_keepRule 4 = .ok (.ifCond .ne 21, 3) := by decide +kernel
theorem dX7_keepRule_7 : decode cX7_keepRule 7 = .ok (.aload_n 0, 1) := by decide +kernel
theorem dX7_keepRule_8 : decode cX7_keepRule 8 = .ok (.getfield 18, 3) := by decide +kernel
theorem dX7_keepRule_11 : decode cX7_keepRule 11 = .ok (.aload_n 0, 1) := by decide +kernel
theorem dX7_keepRule_12 : decode cX7_keepRule 12 = .ok (.getfield 32, 3) := by decide +kernel
theorem dX7_keepRule_15 : decode cX7_keepRule 15 = .ok (.aload_n 0, 1) := by decide +kernel
theorem dX7_keepRule_16 : decode cX7_keepRule 16 = .ok (.getfield 61, 3) := by decide +kernel
theorem dX7_keepRule_19 : decode cX7_keepRule 19 = .ok (.invokestatic 201, 3) := by decide +kernel
theorem dX7_keepRule_22 : decode cX7_keepRule 22 = .ok (.putfield 207, 3) := by decide +kernel
theorem dX7_keepRule_25 : decode cX7_keepRule 25 = .ok (.return_, 1) := by decide +kernel
theorem dX7_readSum_0 : decode cX7_readSum 0 = .ok (.aload_n 0, 1) := by decide +kernel
theorem dX7_readSum_1 : decode cX7_readSum 1 = .ok (.iload_n 1, 1) := by decide +kernel
theorem dX7_readSum_2 : decode cX7_readSum 2 = .ok (.invokevirtual 208, 3) := by decide +kernel
theorem dX7_readSum_5 : decode cX7_readSum 5 = .ok (.iconst 0, 1) := by decide +kernel
theorem dX7_readSum_6 : decode cX7_readSum 6 = .ok (.istore_n 2, 1) := by decide +kernel
theorem dX7_readSum_7 : decode cX7_readSum 7 = .ok (.iload_n 2, 1) := by decide +kernel
theorem dX7_readSum_8 : decode cX7_readSum 8 = .ok (.sipush 500, 3) := by decide +kernel
theorem dX7_readSum_11 : decode cX7_readSum 11 = .ok (.if_icmp .ge 58, 3) := by decide +kernel
theorem dX7_readSum_14 : decode cX7_readSum 14 = .ok (.aload_n 0, 1) := by decide +kernel
theorem dX7_readSum_15 : decode cX7_readSum 15 = .ok (.bipush 43, 2) := by decide +kernel
theorem dX7_readSum_17 : decode cX7_readSum 17 = .ok (.invokevirtual 211, 3) := by decide +kernel
theorem dX7_readSum_20 : decode cX7_readSum 20 = .ok (.ifCond .ne 12, 3) := by decide +kernel
theorem dX7_readSum_23 : decode cX7_readSum 23 = .ok (.aload_n 0, 1) := by decide +kernel
theorem dX7_readSum_24 : decode cX7_readSum 24 = .ok (.bipush 45, 2) := by decide +kernel
theorem dX7_readSum_26 : decode cX7_readSum 26 = .ok (.invokevirtual 211, 3) := by decide +kernel
theorem dX7_readSum_29 : decode cX7_readSum 29 = .ok (.ifCond .eq 40, 3) := by decide +kernel
theorem dX7_readSum_32 : decode cX7_readSum 32 = .ok (.aload_n 0, 1) := by decide +kernel
theorem dX7_readSum_33 : decode cX7_readSum 33 = .ok (.bipush 43, 2) := by decide +kernel
theorem dX7_readSum_35 : decode cX7_readSum 35 = .ok (.invokevirtual 211, 3) := by decide +kernel
theorem dX7_readSum_38 : decode cX7_readSum 38 = .ok (.ifCond .eq 8, 3) := by decide +kernel
theorem dX7_readSum_41 : decode cX7_readSum 41 = .ok (.bipush (-9), 2) := by decide +kernel
theorem dX7_readSum_43 : decode cX7_readSum 43 = .ok (.goto 5, 3) := by decide +kernel
theorem dX7_readSum_46 : decode cX7_readSum 46 = .ok (.bipush (-10), 2) := by decide +kernel
theorem dX7_readSum_48 : decode cX7_readSum 48 = .ok (.istore_n 3, 1) := by decide +kernel
theorem dX7_readSum_49 : decode cX7_readSum 49 = .ok (.aload_n 0, 1) := by decide +kernel
theorem dX7_readSum_50 : decode cX7_readSum 50 = .ok (.invokevirtual 185, 3) := by decide +kernel
theorem dX7_readSum_53 : decode cX7_readSum 53 = .ok (.aload_n 0, 1) := by decide +kernel
theorem dX7_readSum_54 : decode cX7_readSum 54 = .ok (.iload_n 1, 1) := by decide +kernel
theorem dX7_readSum_55 : decode cX7_readSum 55 = .ok (.invokevirtual 208, 3) := by decide +kernel
theorem dX7_readSum_58 : decode cX7_readSum 58 = .ok (.aload_n 0, 1) := by decide +kernel
theorem dX7_readSum_59 : decode cX7_readSum 59 = .ok (.iload_n 3, 1) := by decide +kernel
theorem dX7_readSum_60 : decode cX7_readSum 60 = .ok (.invokevirtual 215, 3) := by decide +kernel
theorem dX7_readSum_63 : decode cX7_readSum 63 = .ok (.iinc 2 1, 3) := by decide +kernel
theorem dX7_readSum_66 : decode cX7_readSum 66 = .ok (.goto (-59), 3) := by decide +kernel
theorem dX7_readSum_69 : decode cX7_readSum 69 = .ok (.return_, 1) := by decide +kernel
theorem dX7_readProduct_0 : decode cX7_readProduct 0 = .ok (.aload_n 0, 1) := by decide +kernel
theorem dX7_readProduct_1 : decode cX7_readProduct 1 = .ok (.iload_n 1, 1) := by decide +kernel
theorem dX7_readProduct_2 : decode cX7_readProduct 2 = .ok (.invokevirtual 218, 3) := by decide +kernel
theorem dX7_readProduct_5 : decode cX7_readProduct 5 = .ok (.iconst 0, 1) := by decide +kernel
theorem dX7_readProduct_6 : decode cX7_readProduct 6 = .ok (.istore_n 2, 1) := by decide +kernel
theorem dX7_readProduct_7 : decode cX7_readProduct 7 = .ok (.iload_n 2, 1) := by decide +kernel
theorem dX7_readProduct_8 : decode cX7_readProduct 8 = .ok (.sipush 500, 3) := by decide +kernel
theorem dX7_readProduct_11 : decode cX7_readProduct 11 = .ok (.if_icmp .ge 33, 3) := by decide +kernel
theorem dX7_readProduct_14 : decode cX7_readProduct 14 = .ok (.aload_n 0, 1) := by decide +kernel
theorem dX7_readProduct_15 : decode cX7_readProduct 15 = .ok (.bipush 42, 2) := by decide +kernel
theorem dX7_readProduct_17 : decode cX7_readProduct 17 = .ok (.invokevirtual 211, 3) := by decide +kernel
theorem dX7_readProduct_20 : decode cX7_readProduct 20 = .ok (.ifCond .eq 24, 3) := by decide +kernel
theorem dX7_readProduct_23 : decode cX7_readProduct 23 = .ok (.aload_n 0, 1) := by decide +kernel
theorem dX7_readProduct_24 : decode cX7_readProduct 24 = .ok (.invokevirtual 185, 3) := by decide +kernel
theorem dX7_readProduct_27 : decode cX7_readProduct 27 = .ok (.aload_n 0, 1) := by decide +kernel
theorem dX7_readProduct_28 : decode cX7_readProduct 28 = .ok (.iload_n 1, 1) := by decide +kernel
theorem dX7_readProduct_29 : decode cX7_readProduct 29 = .ok (.invokevirtual 218, 3) := by decide +kernel
theorem dX7_readProduct_32 : decode cX7_readProduct 32 = .ok (.aload_n 0, 1) := by decide +kernel
theorem dX7_readProduct_33 : decode cX7_readProduct 33 = .ok (.bipush (-11), 2) := by decide +kernel
theorem dX7_readProduct_35 : decode cX7_readProduct 35 = .ok (.invokevirtual 215, 3) := by decide +kernel
theorem dX7_readProduct_38 : decode cX7_readProduct 38 = .ok (.iinc 2 1, 3) := by decide +kernel
theorem dX7_readProduct_41 : decode cX7_readProduct 41 = .ok (.goto (-34), 3) := by decide +kernel
theorem dX7_readProduct_44 : decode cX7_readProduct 44 = .ok (.return_, 1) := by decide +kernel
theorem dX7_readFactor_0 : decode cX7_readFactor 0 = .ok (.aload_n 0, 1) := by decide +kernel
theorem dX7_readFactor_1 : decode cX7_readFactor 1 = .ok (.getfield 22, 3) := by decide +kernel
theorem dX7_readFactor_4 : decode cX7_readFactor 4 = .ok (.aload_n 0, 1) := by decide +kernel
theorem dX7_readFactor_5 : decode cX7_readFactor 5 = .ok (.getfield 55, 3) := by decide +kernel
theorem dX7_readFactor_8 : decode cX7_readFactor 8 = .ok (.iaload, 1) := by decide +kernel
theorem dX7_readFactor_9 : decode cX7_readFactor 9 = .ok (.iconst 2, 1) := by decide +kernel
theorem dX7_readFactor_10 : decode cX7_readFactor 10 = .ok (.if_icmp .ne 19, 3) := by decide +kernel
theorem dX7_readFactor_13 : decode cX7_readFactor 13 = .ok (.aload_n 0, 1) := by decide +kernel
theorem dX7_readFactor_14 : decode cX7_readFactor 14 = .ok (.aload_n 0, 1) := by decide +kernel
theorem dX7_readFactor_15 : decode cX7_readFactor 15 = .ok (.iconst 0, 1) := by decide +kernel
theorem dX7_readFactor_16 : decode cX7_readFactor 16 = .ok (.sipush 9999, 3) := by decide +kernel
theorem dX7_readFactor_19 : decode cX7_readFactor 19 = .ok (.iconst (-1), 1) := by decide +kernel
theorem dX7_readFactor_20 : decode cX7_readFactor 20 = .ok (.invokevirtual 188, 3) := by decide +kernel
theorem dX7_readFactor_23 : decode cX7_readFactor 23 = .ok (.invokevirtual 215, 3) := by decide +kernel
theorem dX7_readFactor_26 : decode cX7_readFactor 26 = .ok (.goto 133, 3) := by decide +kernel
theorem dX7_readFactor_29 : decode cX7_readFactor 29 = .ok (.aload_n 0, 1) := by decide +kernel
theorem dX7_readFactor_30 : decode cX7_readFactor 30 = .ok (.getfield 22, 3) := by decide +kernel
theorem dX7_readFactor_33 : decode cX7_readFactor 33 = .ok (.aload_n 0, 1) := by decide +kernel
theorem dX7_readFactor_34 : decode cX7_readFactor 34 = .ok (.getfield 55, 3) := by decide +kernel
theorem dX7_readFactor_37 : decode cX7_readFactor 37 = .ok (.iaload, 1) := by decide +kernel
theorem dX7_readFactor_38 : decode cX7_readFactor 38 = .ok (.iconst 1, 1) := by decide +kernel
theorem dX7_readFactor_39 : decode cX7_readFactor 39 = .ok (.if_icmp .ne 35, 3) := by decide +kernel
theorem dX7_readFactor_42 : decode cX7_readFactor 42 = .ok (.aload_n 0, 1) := by decide +kernel
theorem dX7_readFactor_43 : decode cX7_readFactor 43 = .ok (.getfield 29, 3) := by decide +kernel
theorem dX7_readFactor_46 : decode cX7_readFactor 46 = .ok (.aload_n 0, 1) := by decide +kernel
theorem dX7_readFactor_47 : decode cX7_readFactor 47 = .ok (.getfield 55, 3) := by decide +kernel
theorem dX7_readFactor_50 : decode cX7_readFactor 50 = .ok (.iaload, 1) := by decide +kernel
theorem dX7_readFactor_51 : decode cX7_readFactor 51 = .ok (.ifCond .ge 23, 3) := by decide +kernel
theorem dX7_readFactor_54 : decode cX7_readFactor 54 = .ok (.aload_n 0, 1) := by decide +kernel
theorem dX7_readFactor_55 : decode cX7_readFactor 55 = .ok (.aload_n 0, 1) := by decide +kernel
theorem dX7_readFactor_56 : decode cX7_readFactor 56 = .ok (.getfield 29, 3) := by decide +kernel
theorem dX7_readFactor_59 : decode cX7_readFactor 59 = .ok (.aload_n 0, 1) := by decide +kernel
theorem dX7_readFactor_60 : decode cX7_readFactor 60 = .ok (.getfield 55, 3) := by decide +kernel
theorem dX7_readFactor_63 : decode cX7_readFactor 63 = .ok (.iaload, 1) := by decide +kernel
theorem dX7_readFactor_64 : decode cX7_readFactor 64 = .ok (.invokevirtual 215, 3) := by decide +kernel
theorem dX7_readFactor_67 : decode cX7_readFactor 67 = .ok (.aload_n 0, 1) := by decide +kernel
theorem dX7_readFactor_68 : decode cX7_readFactor 68 = .ok (.invokevirtual 185, 3) := by decide +kernel
theorem dX7_readFactor_71 : decode cX7_readFactor 71 = .ok (.goto 88, 3) := by decide +kernel
theorem dX7_readFactor_74 : decode cX7_readFactor 74 = .ok (.aload_n 0, 1) := by decide +kernel
theorem dX7_readFactor_75 : decode cX7_readFactor 75 = .ok (.bipush 40, 2) := by decide +kernel
theorem dX7_readFactor_77 : decode cX7_readFactor 77 = .ok (.invokevirtual 211, 3) := by decide +kernel
theorem dX7_readFactor_80 : decode cX7_readFactor 80 = .ok (.ifCond .ne 20, 3) := by decide +kernel
theorem dX7_readFactor_83 : decode cX7_readFactor 83 = .ok (.aload_n 0, 1) := by decide +kernel
theorem dX7_readFactor_84 : decode cX7_readFactor 84 = .ok (.bipush 45, 2) := by decide +kernel
theorem dX7_readFactor_86 : decode cX7_readFactor 86 = .ok (.invokevirtual 211, 3) := by decide +kernel
theorem dX7_readFactor_89 : decode cX7_readFactor 89 = .ok (.ifCond .ne 11, 3) := by decide +kernel
theorem dX7_readFactor_92 : decode cX7_readFactor 92 = .ok (.aload_n 0, 1) := by decide +kernel
theorem dX7_readFactor_93 : decode cX7_readFactor 93 = .ok (.iconst 1, 1) := by decide +kernel
theorem dX7_readFactor_94 : decode cX7_readFactor 94 = .ok (.invokevirtual 179, 3) := by decide +kernel
theorem dX7_readFactor_97 : decode cX7_readFactor 97 = .ok (.goto 62, 3) := by decide +kernel
theorem dX7_readFactor_100 : decode cX7_readFactor 100 = .ok (.iload_n 1, 1) := by decide +kernel
theorem dX7_readFactor_101 : decode cX7_readFactor 101 = .ok (.iconst 5, 1) := by decide +kernel
theorem dX7_readFactor_102 : decode cX7_readFactor 102 = .ok (.if_icmp .lt 11, 3) := by decide +kernel
theorem dX7_readFactor_105 : decode cX7_readFactor 105 = .ok (.aload_n 0, 1) := by decide +kernel
theorem dX7_readFactor_106 : decode cX7_readFactor 106 = .ok (.iconst 4, 1) := by decide +kernel
theorem dX7_readFactor_107 : decode cX7_readFactor 107 = .ok (.invokevirtual 179, 3) := by decide +kernel
theorem dX7_readFactor_110 : decode cX7_readFactor 110 = .ok (.goto 49, 3) := by decide +kernel
theorem dX7_readFactor_113 : decode cX7_readFactor 113 = .ok (.aload_n 0, 1) := by decide +kernel
theorem dX7_readFactor_114 : decode cX7_readFactor 114 = .ok (.bipush 40, 2) := by decide +kernel
theorem dX7_readFactor_116 : decode cX7_readFactor 116 = .ok (.invokevirtual 211, 3) := by decide +kernel
theorem dX7_readFactor_119 : decode cX7_readFactor 119 = .ok (.ifCond .eq 23, 3) := by decide +kernel
theorem dX7_readFactor_122 : decode cX7_readFactor 122 = .ok (.aload_n 0, 1) := by decide +kernel
theorem dX7_readFactor_123 : decode cX7_readFactor 123 = .ok (.invokevirtual 185, 3) := by decide +kernel
theorem dX7_readFactor_126 : decode cX7_readFactor 126 = .ok (.aload_n 0, 1) := by decide +kernel
theorem dX7_readFactor_127 : decode cX7_readFactor 127 = .ok (.iload_n 1, 1) := by decide +kernel
theorem dX7_readFactor_128 : decode cX7_readFactor 128 = .ok (.iconst 1, 1) := by decide +kernel
theorem dX7_readFactor_129 : decode cX7_readFactor 129 = .ok (.iadd, 1) := by decide +kernel
theorem dX7_readFactor_130 : decode cX7_readFactor 130 = .ok (.invokevirtual 173, 3) := by decide +kernel
theorem dX7_readFactor_133 : decode cX7_readFactor 133 = .ok (.aload_n 0, 1) := by decide +kernel
theorem dX7_readFactor_134 : decode cX7_readFactor 134 = .ok (.bipush 41, 2) := by decide +kernel
theorem dX7_readFactor_136 : decode cX7_readFactor 136 = .ok (.invokevirtual 70, 3) := by decide +kernel
theorem dX7_readFactor_139 : decode cX7_readFactor 139 = .ok (.goto 20, 3) := by decide +kernel
theorem dX7_readFactor_142 : decode cX7_readFactor 142 = .ok (.aload_n 0, 1) := by decide +kernel
theorem dX7_readFactor_143 : decode cX7_readFactor 143 = .ok (.invokevirtual 185, 3) := by decide +kernel
theorem dX7_readFactor_146 : decode cX7_readFactor 146 = .ok (.aload_n 0, 1) := by decide +kernel
theorem dX7_readFactor_147 : decode cX7_readFactor 147 = .ok (.iload_n 1, 1) := by decide +kernel
theorem dX7_readFactor_148 : decode cX7_readFactor 148 = .ok (.iconst 1, 1) := by decide +kernel
theorem dX7_readFactor_149 : decode cX7_readFactor 149 = .ok (.iadd, 1) := by decide +kernel
theorem dX7_readFactor_150 : decode cX7_readFactor 150 = .ok (.invokevirtual 218, 3) := by decide +kernel
theorem dX7_readFactor_153 : decode cX7_readFactor 153 = .ok (.aload_n 0, 1) := by decide +kernel
theorem dX7_readFactor_154 : decode cX7_readFactor 154 = .ok (.bipush (-8), 2) := by decide +kernel
theorem dX7_readFactor_156 : decode cX7_readFactor 156 = .ok (.invokevirtual 215, 3) := by decide +kernel
theorem dX7_readFactor_159 : decode cX7_readFactor 159 = .ok (.return_, 1) := by decide +kernel
theorem dX7_write_0 : decode cX7_write 0 = .ok (.aload_n 0, 1) := by decide +kernel
theorem dX7_write_1 : decode cX7_write 1 = .ok (.getfield 49, 3) := by decide +kernel
theorem dX7_write_4 : decode cX7_write 4 = .ok (.ifCond .ne 33, 3) := by decide +kernel
theorem dX7_write_7 : decode cX7_write 7 = .ok (.aload_n 0, 1) := by decide +kernel
theorem dX7_write_8 : decode cX7_write 8 = .ok (.getfield 61, 3) := by decide +kernel
theorem dX7_write_11 : decode cX7_write 11 = .ok (.sipush 500, 3) := by decide +kernel
theorem dX7_write_14 : decode cX7_write 14 = .ok (.if_icmp .ge 23, 3) := by decide +kernel
theorem dX7_write_17 : decode cX7_write 17 = .ok (.aload_n 0, 1) := by decide +kernel
theorem dX7_write_18 : decode cX7_write 18 = .ok (.getfield 32, 3) := by decide +kernel
theorem dX7_write_21 : decode cX7_write 21 = .ok (.aload_n 0, 1) := by decide +kernel
theorem dX7_write_22 : decode cX7_write 22 = .ok (.getfield 61, 3) := by decide +kernel
theorem dX7_write_25 : decode cX7_write 25 = .ok (.iload_n 1, 1) := by decide +kernel
theorem dX7_write_26 : decode cX7_write 26 = .ok (.iastore, 1) := by decide +kernel
theorem dX7_write_27 : decode cX7_write 27 = .ok (.aload_n 0, 1) := by decide +kernel
theorem dX7_write_28 : decode cX7_write 28 = .ok (.dup, 1) := by decide +kernel
theorem dX7_write_29 : decode cX7_write 29 = .ok (.getfield 61, 3) := by decide +kernel
theorem dX7_write_32 : decode cX7_write 32 = .ok (.iconst 1, 1) := by decide +kernel
theorem dX7_write_33 : decode cX7_write 33 = .ok (.iadd, 1) := by decide +kernel
theorem dX7_write_34 : decode cX7_write 34 = .ok (.putfield 61, 3) := by decide +kernel
theorem dX7_write_37 : decode cX7_write 37 = .ok (.return_, 1) := by decide +kernel
theorem dX7_take_0 : decode cX7_take 0 = .ok (.aload_n 0, 1) := by decide +kernel
theorem dX7_take_1 : decode cX7_take 1 = .ok (.iload_n 1, 1) := by decide +kernel
theorem dX7_take_2 : decode cX7_take 2 = .ok (.invokevirtual 211, 3) := by decide +kernel
theorem dX7_take_5 : decode cX7_take 5 = .ok (.ifCond .eq 10, 3) := by decide +kernel
theorem dX7_take_8 : decode cX7_take 8 = .ok (.aload_n 0, 1) := by decide +kernel
theorem dX7_take_9 : decode cX7_take 9 = .ok (.invokevirtual 185, 3) := by decide +kernel
theorem dX7_take_12 : decode cX7_take 12 = .ok (.goto 8, 3) := by decide +kernel
theorem dX7_take_15 : decode cX7_take 15 = .ok (.aload_n 0, 1) := by decide +kernel
theorem dX7_take_16 : decode cX7_take 16 = .ok (.iconst 1, 1) := by decide +kernel
theorem dX7_take_17 : decode cX7_take 17 = .ok (.invokevirtual 179, 3) := by decide +kernel
theorem dX7_take_20 : decode cX7_take 20 = .ok (.return_, 1) := by decide +kernel
theorem dX7_takeNumber_0 : decode cX7_takeNumber 0 = .ok (.aload_n 0, 1) := by decide +kernel
theorem dX7_takeNumber_1 : decode cX7_takeNumber 1 = .ok (.getfield 49, 3) := by decide +kernel
theorem dX7_takeNumber_4 : decode cX7_takeNumber 4 = .ok (.ifCond .eq 5, 3) := by decide +kernel
theorem dX7_takeNumber_7 : decode cX7_takeNumber 7 = .ok (.iconst (-1), 1) := by decide +kernel
theorem dX7_takeNumber_8 : decode cX7_takeNumber 8 = .ok (.ireturn, 1) := by decide +kernel
theorem dX7_takeNumber_9 : decode cX7_takeNumber 9 = .ok (.aload_n 0, 1) := by decide +kernel
theorem dX7_takeNumber_10 : decode cX7_takeNumber 10 = .ok (.getfield 29, 3) := by decide +kernel
theorem dX7_takeNumber_13 : decode cX7_takeNumber 13 = .ok (.aload_n 0, 1) := by decide +kernel
theorem dX7_takeNumber_14 : decode cX7_takeNumber 14 = .ok (.getfield 55, 3) := by decide +kernel
theorem dX7_takeNumber_17 : decode cX7_takeNumber 17 = .ok (.iaload, 1) := by decide +kernel
theorem dX7_takeNumber_18 : decode cX7_takeNumber 18 = .ok (.istore 4, 2) := by decide +kernel
theorem dX7_takeNumber_20 : decode cX7_takeNumber 20 = .ok (.aload_n 0, 1) := by decide +kernel
theorem dX7_takeNumber_21 : decode cX7_takeNumber 21 = .ok (.getfield 22, 3) := by decide +kernel
theorem dX7_takeNumber_24 : decode cX7_takeNumber 24 = .ok (.aload_n 0, 1) := by decide +kernel
theorem dX7_takeNumber_25 : decode cX7_takeNumber 25 = .ok (.getfield 55, 3) := by decide +kernel
theorem dX7_takeNumber_28 : decode cX7_takeNumber 28 = .ok (.iaload, 1) := by decide +kernel
theorem dX7_takeNumber_29 : decode cX7_takeNumber 29 = .ok (.iconst 2, 1) := by decide +kernel
theorem dX7_takeNumber_30 : decode cX7_takeNumber 30 = .ok (.if_icmp .eq 10, 3) := by decide +kernel
theorem dX7_takeNumber_33 : decode cX7_takeNumber 33 = .ok (.aload_n 0, 1) := by decide +kernel
theorem dX7_takeNumber_34 : decode cX7_takeNumber 34 = .ok (.iconst 1, 1) := by decide +kernel
theorem dX7_takeNumber_35 : decode cX7_takeNumber 35 = .ok (.invokevirtual 179, 3) := by decide +kernel
theorem dX7_takeNumber_38 : decode cX7_takeNumber 38 = .ok (.iconst (-1), 1) := by decide +kernel
theorem dX7_takeNumber_39 : decode cX7_takeNumber 39 = .ok (.ireturn, 1) := by decide +kernel
theorem dX7_takeNumber_40 : decode cX7_takeNumber 40 = .ok (.iload 4, 2) := by decide +kernel
theorem dX7_takeNumber_42 : decode cX7_takeNumber 42 = .ok (.iload_n 1, 1) := by decide +kernel
theorem dX7_takeNumber_43 : decode cX7_takeNumber 43 = .ok (.if_icmp .lt 15, 3) := by decide +kernel
theorem dX7_takeNumber_46 : decode cX7_takeNumber 46 = .ok (.iload 4, 2) := by decide +kernel
theorem dX7_takeNumber_48 : decode cX7_takeNumber 48 = .ok (.iload_n 2, 1) := by decide +kernel
theorem dX7_takeNumber_49 : decode cX7_takeNumber 49 = .ok (.if_icmp .gt 9, 3) := by decide +kernel
theorem dX7_takeNumber_52 : decode cX7_takeNumber 52 = .ok (.iload 4, 2) := by decide +kernel
theorem dX7_takeNumber_54 : decode cX7_takeNumber 54 = .ok (.iload_n 3, 1) := by decide +kernel
theorem dX7_takeNumber_55 : decode cX7_takeNumber 55 = .ok (.if_icmp .ne 10, 3) := by decide +kernel
theorem dX7_takeNumber_58 : decode cX7_takeNumber 58 = .ok (.aload_n 0, 1) := by decide +kernel
theorem dX7_takeNumber_59 : decode cX7_takeNumber 59 = .ok (.iconst 2, 1) := by decide +kernel
theorem dX7_takeNumber_60 : decode cX7_takeNumber 60 = .ok (.invokevirtual 179, 3) := by decide +kernel
theorem dX7_takeNumber_63 : decode cX7_takeNumber 63 = .ok (.iconst (-1), 1) := by decide +kernel
theorem dX7_takeNumber_64 : decode cX7_takeNumber 64 = .ok (.ireturn, 1) := by decide +kernel
theorem dX7_takeNumber_65 : decode cX7_takeNumber 65 = .ok (.aload_n 0, 1) := by decide +kernel
theorem dX7_takeNumber_66 : decode cX7_takeNumber 66 = .ok (.invokevirtual 185, 3) := by decide +kernel
theorem dX7_takeNumber_69 : decode cX7_takeNumber 69 = .ok (.iload 4, 2) := by decide +kernel
theorem dX7_takeNumber_71 : decode cX7_takeNumber 71 = .ok (.ireturn, 1) := by decide +kernel
theorem dX7_isNext_0 : decode cX7_isNext 0 = .ok (.aload_n 0, 1) := by decide +kernel
theorem dX7_isNext_1 : decode cX7_isNext 1 = .ok (.getfield 49, 3) := by decide +kernel
theorem dX7_isNext_4 : decode cX7_isNext 4 = .ok (.ifCond .ne 33, 3) := by decide +kernel
theorem dX7_isNext_7 : decode cX7_isNext 7 = .ok (.aload_n 0, 1) := by decide +kernel
theorem dX7_isNext_8 : decode cX7_isNext 8 = .ok (.getfield 22, 3) := by decide +kernel
theorem dX7_isNext_11 : decode cX7_isNext 11 = .ok (.aload_n 0, 1) := by decide +kernel
theorem dX7_isNext_12 : decode cX7_isNext 12 = .ok (.getfield 55, 3) := by decide +kernel
theorem dX7_isNext_15 : decode cX7_isNext 15 = .ok (.iaload, 1) := by decide +kernel
theorem dX7_isNext_16 : decode cX7_isNext 16 = .ok (.iconst 3, 1) := by decide +kernel
theorem dX7_isNext_17 : decode cX7_isNext 17 = .ok (.if_icmp .ne 20, 3) := by decide +kernel
theorem dX7_isNext_20 : decode cX7_isNext 20 = .ok (.aload_n 0, 1) := by decide +kernel
theorem dX7_isNext_21 : decode cX7_isNext 21 = .ok (.getfield 29, 3) := by decide +kernel
theorem dX7_isNext_24 : decode cX7_isNext 24 = .ok (.aload_n 0, 1) := by decide +kernel
theorem dX7_isNext_25 : decode cX7_isNext 25 = .ok (.getfield 55, 3) := by decide +kernel
theorem dX7_isNext_28 : decode cX7_isNext 28 = .ok (.iaload, 1) := by decide +kernel
theorem dX7_isNext_29 : decode cX7_isNext 29 = .ok (.iload_n 1, 1) := by decide +kernel
theorem dX7_isNext_30 : decode cX7_isNext 30 = .ok (.if_icmp .ne 7, 3) := by decide +kernel
theorem dX7_isNext_33 : decode cX7_isNext 33 = .ok (.iconst 1, 1) := by decide +kernel
theorem dX7_isNext_34 : decode cX7_isNext 34 = .ok (.goto 4, 3) := by decide +kernel
theorem dX7_isNext_37 : decode cX7_isNext 37 = .ok (.iconst 0, 1) := by decide +kernel
theorem dX7_isNext_38 : decode cX7_isNext 38 = .ok (.ireturn, 1) := by decide +kernel
theorem dX7_advance_0 : decode cX7_advance 0 = .ok (.aload_n 0, 1) := by decide +kernel
theorem dX7_advance_1 : decode cX7_advance 1 = .ok (.getfield 49, 3) := by decide +kernel
theorem dX7_advance_4 : decode cX7_advance 4 = .ok (.ifCond .ne 26, 3) := by decide +kernel
theorem dX7_advance_7 : decode cX7_advance 7 = .ok (.aload_n 0, 1) := by decide +kernel
theorem dX7_advance_8 : decode cX7_advance 8 = .ok (.getfield 55, 3) := by decide +kernel
theorem dX7_advance_11 : decode cX7_advance 11 = .ok (.aload_n 0, 1) := by decide +kernel
theorem dX7_advance_12 : decode cX7_advance 12 = .ok (.getfield 74, 3) := by decide +kernel
theorem dX7_advance_15 : decode cX7_advance 15 = .ok (.iconst 1, 1) := by decide +kernel
theorem dX7_advance_16 : decode cX7_advance 16 = .ok (.isub, 1) := by decide +kernel
theorem dX7_advance_17 : decode cX7_advance 17 = .ok (.if_icmp .ge 13, 3) := by decide +kernel
theorem dX7_advance_20 : decode cX7_advance 20 = .ok (.aload_n 0, 1) := by decide +kernel
theorem dX7_advance_21 : decode cX7_advance 21 = .ok (.dup, 1) := by decide +kernel
theorem dX7_advance_22 : decode cX7_advance 22 = .ok (.getfield 55, 3) := by decide +kernel
theorem dX7_advance_25 : decode cX7_advance 25 = .ok (.iconst 1, 1) := by decide +kernel
theorem dX7_advance_26 : decode cX7_advance 26 = .ok (.iadd, 1) := by decide +kernel
theorem dX7_advance_27 : decode cX7_advance 27 = .ok (.putfield 55, 3) := by decide +kernel
theorem dX7_advance_30 : decode cX7_advance 30 = .ok (.return_, 1) := by decide +kernel
theorem dX7_refuse_0 : decode cX7_refuse 0 = .ok (.aload_n 0, 1) := by decide +kernel
theorem dX7_refuse_1 : decode cX7_refuse 1 = .ok (.getfield 49, 3) := by decide +kernel
theorem dX7_refuse_4 : decode cX7_refuse 4 = .ok (.ifCond .ne 21, 3) := by decide +kernel
theorem dX7_refuse_7 : decode cX7_refuse 7 = .ok (.aload_n 0, 1) := by decide +kernel
theorem dX7_refuse_8 : decode cX7_refuse 8 = .ok (.iload_n 1, 1) := by decide +kernel
theorem dX7_refuse_9 : decode cX7_refuse 9 = .ok (.putfield 49, 3) := by decide +kernel
theorem dX7_refuse_12 : decode cX7_refuse 12 = .ok (.aload_n 0, 1) := by decide +kernel
theorem dX7_refuse_13 : decode cX7_refuse 13 = .ok (.aload_n 0, 1) := by decide +kernel
theorem dX7_refuse_14 : decode cX7_refuse 14 = .ok (.getfield 26, 3) := by decide +kernel
theorem dX7_refuse_17 : decode cX7_refuse 17 = .ok (.aload_n 0, 1) := by decide +kernel
theorem dX7_refuse_18 : decode cX7_refuse 18 = .ok (.getfield 55, 3) := by decide +kernel
theorem dX7_refuse_21 : decode cX7_refuse 21 = .ok (.iaload, 1) := by decide +kernel
theorem dX7_refuse_22 : decode cX7_refuse 22 = .ok (.putfield 52, 3) := by decide +kernel
theorem dX7_refuse_25 : decode cX7_refuse 25 = .ok (.return_, 1) := by decide +kernel
theorem dX8_init_0 : decode cX8_init 0 = .ok (.aload_n 0, 1) := by decide +kernel
theorem dX8_init_1 : decode cX8_init 1 = .ok (.invokespecial 3, 3) := by decide +kernel
theorem dX8_init_4 : decode cX8_init 4 = .ok (.aload_n 0, 1) := by decide +kernel
theorem dX8_init_5 : decode cX8_init 5 = .ok (.bipush 8, 2) := by decide +kernel
theorem dX8_init_7 : decode cX8_init 7 = .ok (.newarray .int, 2) := by decide +kernel
theorem dX8_init_9 : decode cX8_init 9 = .ok (.putfield 9, 3) := by decide +kernel
theorem dX8_init_12 : decode cX8_init 12 = .ok (.aload_n 0, 1) := by decide +kernel
theorem dX8_init_13 : decode cX8_init 13 = .ok (.bipush 8, 2) := by decide +kernel
theorem dX8_init_15 : decode cX8_init 15 = .ok (.newarray .int, 2) := by decide +kernel
theorem dX8_init_17 : decode cX8_init 17 = .ok (.putfield 15, 3) := by decide +kernel
theorem dX8_init_20 : decode cX8_init 20 = .ok (.return_, 1) := by decide +kernel
theorem dX8_find_0 : decode cX8_find 0 = .ok (.aload_n 0, 1) := by decide +kernel
theorem dX8_find_1 : decode cX8_find 1 = .ok (.aload_n 1, 1) := by decide +kernel
theorem dX8_find_2 : decode cX8_find 2 = .ok (.invokevirtual 18, 3) := by decide +kernel
theorem dX8_find_5 : decode cX8_find 5 = .ok (.iconst 0, 1) := by decide +kernel
theorem dX8_find_6 : decode cX8_find 6 = .ok (.istore_n 3, 1) := by decide +kernel
theorem dX8_find_7 : decode cX8_find 7 = .ok (.iload_n 3, 1) := by decide +kernel
theorem dX8_find_8 : decode cX8_find 8 = .ok (.aload_n 2, 1) := by decide +kernel
theorem dX8_find_9 : decode cX8_find 9 = .ok (.getfield 22, 3) := by decide +kernel
theorem dX8_find_12 : decode cX8_find 12 = .ok (.if_icmp .ge 63, 3) := by decide +kernel
theorem dX8_find_15 : decode cX8_find 15 = .ok (.aload_n 2, 1) := by decide +kernel
theorem dX8_find_16 : decode cX8_find 16 = .ok (.getfield 28, 3) := by decide +kernel
theorem dX8_find_19 : decode cX8_find 19 = .ok (.iload_n 3, 1) := by decide +kernel
theorem dX8_find_20 : decode cX8_find 20 = .ok (.iaload, 1) := by decide +kernel
theorem dX8_find_21 : decode cX8_find 21 = .ok (.istore 4, 2) := by decide +kernel
theorem dX8_find_23 : decode cX8_find 23 = .ok (.aload_n 1, 1) := by decide +kernel
theorem dX8_find_24 : decode cX8_find 24 = .ok (.iload 4, 2) := by decide +kernel
theorem dX8_find_26 : decode cX8_find 26 = .ok (.invokestatic 31, 3) := by decide +kernel
theorem dX8_find_29 : decode cX8_find 29 = .ok (.ifCond .eq 40, 3) := by decide +kernel
theorem dX8_find_32 : decode cX8_find 32 = .ok (.aload_n 0, 1) := by decide +kernel
theorem dX8_find_33 : decode cX8_find 33 = .ok (.aload_n 1, 1) := by decide +kernel
theorem dX8_find_34 : decode cX8_find 34 = .ok (.aload_n 2, 1) := by decide +kernel
theorem dX8_find_35 : decode cX8_find 35 = .ok (.iload 4, 2) := by decide +kernel
theorem dX8_find_37 : decode cX8_find 37 = .ok (.invokevirtual 35, 3) := by decide +kernel
theorem dX8_find_40 : decode cX8_find 40 = .ok (.ifCond .eq 29, 3) := by decide +kernel
theorem dX8_find_43 : decode cX8_find 43 = .ok (.aload_n 0, 1) := by decide +kernel
theorem dX8_find_44 : decode cX8_find 44 = .ok (.aload_n 1, 1) := by decide +kernel
theorem dX8_find_45 : decode cX8_find 45 = .ok (.aload_n 0, 1) := by decide +kernel
theorem dX8_find_46 : decode cX8_find 46 = .ok (.aload_n 1, 1) := by decide +kernel
theorem dX8_find_47 : decode cX8_find 47 = .ok (.invokevirtual 39, 3) := by decide +kernel
theorem dX8_find_50 : decode cX8_find 50 = .ok (.invokevirtual 43, 3) := by decide +kernel
theorem dX8_find_53 : decode cX8_find 53 = .ok (.putfield 49, 3) := by decide +kernel
theorem dX8_find_56 : decode cX8_find 56 = .ok (.aload_n 0, 1) := by decide +kernel
theorem dX8_find_57 : decode cX8_find 57 = .ok (.getfield 49, 3) := by decide +kernel
theorem dX8_find_60 : decode cX8_find 60 = .ok (.ifCond .le 7, 3) := by decide +kernel
theorem dX8_find_63 : decode cX8_find 63 = .ok (.iconst 1, 1) := by decide +kernel
theorem dX8_find_64 : decode cX8_find 64 = .ok (.goto 4, 3) := by decide +kernel
theorem dX8_find_67 : decode cX8_find 67 = .ok (.iconst 0, 1) := by decide +kernel
theorem dX8_find_68 : decode cX8_find 68 = .ok (.ireturn, 1) := by decide +kernel
theorem dX8_find_69 : decode cX8_find 69 = .ok (.iinc 3 1, 3) := by decide +kernel
theorem dX8_find_72 : decode cX8_find 72 = .ok (.goto (-65), 3) := by decide +kernel
theorem dX8_find_75 : decode cX8_find 75 = .ok (.iconst 0, 1) := by decide +kernel
theorem dX8_find_76 : decode cX8_find 76 = .ok (.ireturn, 1) := by decide +kernel
theorem dX8_isFit_0 : decode cX8_isFit 0 = .ok (.aload_n 0, 1) := by decide +kernel
theorem dX8_isFit_1 : decode cX8_isFit 1 = .ok (.getfield 52, 3) := by decide +kernel
theorem dX8_isFit_4 : decode cX8_isFit 4 = .ok (.iload_n 1, 1) := by decide +kernel
theorem dX8_isFit_5 : decode cX8_isFit 5 = .ok (.aaload, 1) := by decide +kernel
theorem dX8_isFit_6 : decode cX8_isFit 6 = .ok (.getfield 56, 3) := by decide +kernel
theorem dX8_isFit_9 : decode cX8_isFit 9 = .ok (.aload_n 0, 1) := by decide +kernel
theorem dX8_isFit_10 : decode cX8_isFit 10 = .ok (.getfield 61, 3) := by decide +kernel
theorem dX8_isFit_13 : decode cX8_isFit 13 = .ok (.if_icmp .gt 23, 3) := by decide +kernel
theorem dX8_isFit_16 : decode cX8_isFit 16 = .ok (.aload_n 0, 1) := by decide +kernel
theorem dX8_isFit_17 : decode cX8_isFit 17 = .ok (.getfield 52, 3) := by decide +kernel
theorem dX8_isFit_20 : decode cX8_isFit 20 = .ok (.iload_n 1, 1) := by decide +kernel
theorem dX8_isFit_21 : decode cX8_isFit 21 = .ok (.aaload, 1) := by decide +kernel
theorem dX8_isFit_22 : decode cX8_isFit 22 = .ok (.getfield 64, 3) := by decide +kernel
theorem dX8_isFit_25 : decode cX8_isFit 25 = .ok (.aload_n 0, 1) := by decide +kernel
theorem dX8_isFit_26 : decode cX8_isFit 26 = .ok (.getfield 67, 3) := by decide +kernel
theorem dX8_isFit_29 : decode cX8_isFit 29 = .ok (.if_icmp .lt 7, 3) := by decide +kernel
theorem dX8_isFit_32 : decode cX8_isFit 32 = .ok (.iconst 1, 1) := by decide +kernel
theorem dX8_isFit_33 : decode cX8_isFit 33 = .ok (.goto 4, 3) := by decide +kernel
theorem dX8_isFit_36 : decode cX8_isFit 36 = .ok (.iconst 0, 1) := by decide +kernel
theorem dX8_isFit_37 : decode cX8_isFit 37 = .ok (.ireturn, 1) := by decide +kernel
theorem dX8_seeBuyers_0 : decode cX8_seeBuyers 0 = .ok (.aload_n 0, 1) := by decide +kernel
theorem dX8_seeBuyers_1 : decode cX8_seeBuyers 1 = .ok (.getfield 15, 3) := by decide +kernel
theorem dX8_seeBuyers_4 : decode cX8_seeBuyers 4 = .ok (.iconst 0, 1) := by decide +kernel
theorem dX8_seeBuyers_5 : decode cX8_seeBuyers 5 = .ok (.invokestatic 70, 3) := by decide +kernel
theorem dX8_seeBuyers_8 : decode cX8_seeBuyers 8 = .ok (.iconst 0, 1) := by decide +kernel
theorem dX8_seeBuyers_9 : decode cX8_seeBuyers 9 = .ok (.istore_n 2, 1) := by decide +kernel
theorem dX8_seeBuyers_10 : decode cX8_seeBuyers 10 = .ok (.iload_n 2, 1) := by decide +kernel
theorem dX8_seeBuyers_11 : decode cX8_seeBuyers 11 = .ok (.aload_n 1, 1) := by decide +kernel
theorem dX8_seeBuyers_12 : decode cX8_seeBuyers 12 = .ok (.getfield 76, 3) := by decide +kernel
theorem dX8_seeBuyers_15 : decode cX8_seeBuyers 15 = .ok (.if_icmp .ge 45, 3) := by decide +kernel
theorem dX8_seeBuyers_18 : decode cX8_seeBuyers 18 = .ok (.aload_n 1, 1) := by decide +kernel
theorem dX8_seeBuyers_19 : decode cX8_seeBuyers 19 = .ok (.iload_n 2, 1) := by decide +kernel
theorem dX8_seeBuyers_20 : decode cX8_seeBuyers 20 = .ok (.invokestatic 31, 3) := by decide +kernel
theorem dX8_seeBuyers_23 : decode cX8_seeBuyers 23 = .ok (.ifCond .eq 31, 3) := by decide +kernel
theorem dX8_seeBuyers_26 : decode cX8_seeBuyers 26 = .ok (.aload_n 0, 1) := by decide +kernel
theorem dX8_seeBuyers_27 : decode cX8_seeBuyers 27 = .ok (.getfield 15, 3) := by decide +kernel
theorem dX8_seeBuyers_30 : decode cX8_seeBuyers 30 = .ok (.aload_n 1, 1) := by decide +kernel
theorem dX8_seeBuyers_31 : decode cX8_seeBuyers 31 = .ok (.getfield 52, 3) := by decide +kernel
theorem dX8_seeBuyers_34 : decode cX8_seeBuyers 34 = .ok (.iload_n 2, 1) := by decide +kernel
theorem dX8_seeBuyers_35 : decode cX8_seeBuyers 35 = .ok (.aaload, 1) := by decide +kernel
theorem dX8_seeBuyers_36 : decode cX8_seeBuyers 36 = .ok (.getfield 79, 3) := by decide +kernel
theorem dX8_seeBuyers_39 : decode cX8_seeBuyers 39 = .ok (.dup2, 1) := by decide +kernel
theorem dX8_seeBuyers_40 : decode cX8_seeBuyers 40 = .ok (.iaload, 1) := by decide +kernel
theorem dX8_seeBuyers_41 : decode cX8_seeBuyers 41 = .ok (.iconst 1, 1) := by decide +kernel
theorem dX8_seeBuyers_42 : decode cX8_seeBuyers 42 = .ok (.aload_n 1, 1) := by decide +kernel
theorem dX8_seeBuyers_43 : decode cX8_seeBuyers 43 = .ok (.getfield 52, 3) := by decide +kernel
theorem dX8_seeBuyers_46 : decode cX8_seeBuyers 46 = .ok (.iload_n 2, 1) := by decide +kernel
theorem dX8_seeBuyers_47 : decode cX8_seeBuyers 47 = .ok (.aaload, 1) := by decide +kernel
theorem dX8_seeBuyers_48 : decode cX8_seeBuyers 48 = .ok (.getfield 82, 3) := by decide +kernel
theorem dX8_seeBuyers_51 : decode cX8_seeBuyers 51 = .ok (.ishl, 1) := by decide +kernel
theorem dX8_seeBuyers_52 : decode cX8_seeBuyers 52 = .ok (.ior, 1) := by decide +kernel
theorem dX8_seeBuyers_53 : decode cX8_seeBuyers 53 = .ok (.iastore, 1) := by decide +kernel
theorem dX8_seeBuyers_54 : decode cX8_seeBuyers 54 = .ok (.iinc 2 1, 3) := by decide +kernel
theorem dX8_seeBuyers_57 : decode cX8_seeBuyers 57 = .ok (.goto (-47), 3) := by decide +kernel
theorem dX8_seeBuyers_60 : decode cX8_seeBuyers 60 = .ok (.return_, 1) := by decide +kernel
theorem dX8_follow_0 : decode cX8_follow 0 = .ok (.aload_n 1, 1) := by decide +kernel
theorem dX8_follow_1 : decode cX8_follow 1 = .ok (.getfield 52, 3) := by decide +kernel
theorem dX8_follow_4 : decode cX8_follow 4 = .ok (.iload_n 3, 1) := by decide +kernel
theorem dX8_follow_5 : decode cX8_follow 5 = .ok (.aaload, 1) := by decide +kernel
theorem dX8_follow_6 : decode cX8_follow 6 = .ok (.getfield 79, 3) := by decide +kernel
theorem dX8_follow_9 : decode cX8_follow 9 = .ok (.istore 4, 2) := by decide +kernel
theorem dX8_follow_11 : decode cX8_follow 11 = .ok (.aload_n 1, 1) := by decide +kernel
theorem dX8_follow_12 : decode cX8_follow 12 = .ok (.getfield 52, 3) := by decide +kernel
theorem dX8_follow_15 : decode cX8_follow 15 = .ok (.iload_n 3, 1) := by decide +kernel
theorem dX8_follow_16 : decode cX8_follow 16 = .ok (.aaload, 1) := by decide +kernel
theorem dX8_follow_17 : decode cX8_follow 17 = .ok (.getfield 82, 3) := by decide +kernel
theorem dX8_follow_20 : decode cX8_follow 20 = .ok (.istore 5, 2) := by decide +kernel
theorem dX8_follow_22 : decode cX8_follow 22 = .ok (.iconst 1, 1) := by decide +kernel
theorem dX8_follow_23 : decode cX8_follow 23 = .ok (.iload 4, 2) := by decide +kernel
theorem dX8_follow_25 : decode cX8_follow 25 = .ok (.ishl, 1) := by decide +kernel
theorem dX8_follow_26 : decode cX8_follow 26 = .ok (.istore 6, 2) := by decide +kernel
theorem dX8_follow_28 : decode cX8_follow 28 = .ok (.aload_n 0, 1) := by decide +kernel
theorem dX8_follow_29 : decode cX8_follow 29 = .ok (.getfield 9, 3) := by decide +kernel
theorem dX8_follow_32 : decode cX8_follow 32 = .ok (.iconst 0, 1) := by decide +kernel
theorem dX8_follow_33 : decode cX8_follow 33 = .ok (.iload_n 3, 1) := by decide +kernel
theorem dX8_follow_34 : decode cX8_follow 34 = .ok (.iastore, 1) := by decide +kernel
theorem dX8_follow_35 : decode cX8_follow 35 = .ok (.aload_n 0, 1) := by decide +kernel
theorem dX8_follow_36 : decode cX8_follow 36 = .ok (.iconst 1, 1) := by decide +kernel
theorem dX8_follow_37 : decode cX8_follow 37 = .ok (.putfield 85, 3) := by decide +kernel
theorem dX8_follow_40 : decode cX8_follow 40 = .ok (.iconst 1, 1) := by decide +kernel
theorem dX8_follow_41 : decode cX8_follow 41 = .ok (.istore 7, 2) := by decide +kernel
theorem dX8_follow_43 : decode cX8_follow 43 = .ok (.iload 7, 2) := by decide +kernel
theorem dX8_follow_45 : decode cX8_follow 45 = .ok (.bipush 8, 2) := by decide +kernel
theorem dX8_follow_47 : decode cX8_follow 47 = .ok (.if_icmp .ge 79, 3) := by decide +kernel
theorem dX8_follow_50 : decode cX8_follow 50 = .ok (.iload 5, 2) := by decide +kernel
theorem dX8_follow_52 : decode cX8_follow 52 = .ok (.iload 4, 2) := by decide +kernel
theorem dX8_follow_54 : decode cX8_follow 54 = .ok (.if_icmp .eq 72, 3) := by decide +kernel
theorem dX8_follow_57 : decode cX8_follow 57 = .ok (.iload 6, 2) := by decide +kernel
theorem dX8_follow_59 : decode cX8_follow 59 = .ok (.iconst 1, 1) := by decide +kernel
theorem dX8_follow_60 : decode cX8_follow 60 = .ok (.iload 5, 2) := by decide +kernel
theorem dX8_follow_62 : decode cX8_follow 62 = .ok (.ishl, 1) := by decide +kernel
theorem dX8_follow_63 : decode cX8_follow 63 = .ok (.ior, 1) := by decide +kernel
theorem dX8_follow_64 : decode cX8_follow 64 = .ok (.istore 6, 2) := by decide +kernel
theorem dX8_follow_66 : decode cX8_follow 66 = .ok (.aload_n 1, 1) := by decide +kernel
theorem dX8_follow_67 : decode cX8_follow 67 = .ok (.aload_n 2, 1) := by decide +kernel
theorem dX8_follow_68 : decode cX8_follow 68 = .ok (.iload 5, 2) := by decide +kernel
theorem dX8_follow_70 : decode cX8_follow 70 = .ok (.aload_n 0, 1) := by decide +kernel
theorem dX8_follow_71 : decode cX8_follow 71 = .ok (.iload 4, 2) := by decide +kernel
theorem dX8_follow_73 : decode cX8_follow 73 = .ok (.iload 6, 2) := by decide +kernel
theorem dX8_follow_75 : decode cX8_follow 75 = .ok (.invokevirtual 86, 3) := by decide +kernel
theorem dX8_follow_78 : decode cX8_follow 78 = .ok (.invokestatic 90, 3) := by decide +kernel
theorem dX8_follow_81 : decode cX8_follow 81 = .ok (.istore 8, 2) := by decide +kernel
theorem dX8_follow_83 : decode cX8_follow 83 = .ok (.iload 8, 2) := by decide +kernel
theorem dX8_follow_85 : decode cX8_follow 85 = .ok (.iconst (-1), 1) := by decide +kernel
theorem dX8_follow_86 : decode cX8_follow 86 = .ok (.if_icmp .ne 5, 3) := by decide +kernel
theorem dX8_follow_89 : decode cX8_follow 89 = .ok (.iconst 0, 1) := by decide +kernel
theorem dX8_follow_90 : decode cX8_follow 90 = .ok (.ireturn, 1) := by decide +kernel
theorem dX8_follow_91 : decode cX8_follow 91 = .ok (.aload_n 0, 1) := by decide +kernel
theorem dX8_follow_92 : decode cX8_follow 92 = .ok (.getfield 9, 3) := by decide +kernel
theorem dX8_follow_95 : decode cX8_follow 95 = .ok (.iload 7, 2) := by decide +kernel
theorem dX8_follow_97 : decode cX8_follow 97 = .ok (.iload 8, 2) := by decide +kernel
theorem dX8_follow_99 : decode cX8_follow 99 = .ok (.iastore, 1) := by decide +kernel
theorem dX8_follow_100 : decode cX8_follow 100 = .ok (.aload_n 0, 1) := by decide +kernel
theorem dX8_follow_101 : decode cX8_follow 101 = .ok (.iload 7, 2) := by decide +kernel
theorem dX8_follow_103 : decode cX8_follow 103 = .ok (.iconst 1, 1) := by decide +kernel
theorem dX8_follow_104 : decode cX8_follow 104 = .ok (.iadd, 1) := by decide +kernel
theorem dX8_follow_105 : decode cX8_follow 105 = .ok (.putfield 85, 3) := by decide +kernel
theorem dX8_follow_108 : decode cX8_follow 108 = .ok (.aload_n 1, 1) := by decide +kernel
theorem dX8_follow_109 : decode cX8_follow 109 = .ok (.getfield 52, 3) := by decide +kernel
theorem dX8_follow_112 : decode cX8_follow 112 = .ok (.iload 8, 2) := by decide +kernel
theorem dX8_follow_114 : decode cX8_follow 114 = .ok (.aaload, 1) := by decide +kernel
theorem dX8_follow_115 : decode cX8_follow 115 = .ok (.getfield 82, 3) := by decide +kernel
theorem dX8_follow_118 : decode cX8_follow 118 = .ok (.istore 5, 2) := by decide +kernel
theorem dX8_follow_120 : decode cX8_follow 120 = .ok (.iinc 7 1, 3) := by decide +kernel
theorem dX8_follow_123 : decode cX8_follow 123 = .ok (.goto (-80), 3) := by decide +kernel
theorem dX8_follow_126 : decode cX8_follow 126 = .ok (.iload 5, 2) := by decide +kernel
theorem dX8_follow_128 : decode cX8_follow 128 = .ok (.iload 4, 2) := by decide +kernel
theorem dX8_follow_130 : decode cX8_follow 130 = .ok (.if_icmp .ne 7, 3) := by decide +kernel
theorem dX8_follow_133 : decode cX8_follow 133 = .ok (.iconst 1, 1) := by decide +kernel
theorem dX8_follow_134 : decode cX8_follow 134 = .ok (.goto 4, 3) := by decide +kernel
theorem dX8_follow_137 : decode cX8_follow 137 = .ok (.iconst 0, 1) := by decide +kernel
theorem dX8_follow_138 : decode cX8_follow 138 = .ok (.ireturn, 1) := by decide +kernel
theorem dX8_nextOf_0 : decode cX8_nextOf 0 = .ok (.iconst 0, 1) := by decide +kernel
theorem dX8_nextOf_1 : decode cX8_nextOf 1 = .ok (.istore 4, 2) := by decide +kernel
theorem dX8_nextOf_3 : decode cX8_nextOf 3 = .ok (.iload 4, 2) := by decide +kernel
theorem dX8_nextOf_5 : decode cX8_nextOf 5 = .ok (.aload_n 1, 1) := by decide +kernel
theorem dX8_nextOf_6 : decode cX8_nextOf 6 = .ok (.getfield 22, 3) := by decide +kernel
theorem dX8_nextOf_9 : decode cX8_nextOf 9 = .ok (.if_icmp .ge 66, 3) := by decide +kernel
theorem dX8_nextOf_12 : decode cX8_nextOf 12 = .ok (.aload_n 0, 1) := by decide +kernel
theorem dX8_nextOf_13 : decode cX8_nextOf 13 = .ok (.getfield 52, 3) := by decide +kernel
theorem dX8_nextOf_16 : decode cX8_nextOf 16 = .ok (.aload_n 1, 1) := by decide +kernel
theorem dX8_nextOf_17 : decode cX8_nextOf 17 = .ok (.getfield 28, 3) := by decide +kernel
theorem dX8_nextOf_20 : decode cX8_nextOf 20 = .ok (.iload 4, 2) := by decide +kernel
theorem dX8_nextOf_22 : decode cX8_nextOf 22 = .ok (.iaload, 1) := by decide +kernel
theorem dX8_nextOf_23 : decode cX8_nextOf 23 = .ok (.aaload, 1) := by decide +kernel
theorem dX8_nextOf_24 : decode cX8_nextOf 24 = .ok (.astore 5, 2) := by decide +kernel
theorem dX8_nextOf_26 : decode cX8_nextOf 26 = .ok (.aload 5, 2) := by decide +kernel
theorem dX8_nextOf_28 : decode cX8_nextOf 28 = .ok (.getfield 79, 3) := by decide +kernel
theorem dX8_nextOf_31 : decode cX8_nextOf 31 = .ok (.iload_n 2, 1) := by decide +kernel
theorem dX8_nextOf_32 : decode cX8_nextOf 32 = .ok (.if_icmp .ne 37, 3) := by decide +kernel
theorem dX8_nextOf_35 : decode cX8_nextOf 35 = .ok (.iload_n 3, 1) := by decide +kernel
theorem dX8_nextOf_36 : decode cX8_nextOf 36 = .ok (.aload 5, 2) := by decide +kernel
theorem dX8_nextOf_38 : decode cX8_nextOf 38 = .ok (.getfield 82, 3) := by decide +kernel
theorem dX8_nextOf_41 : decode cX8_nextOf 41 = .ok (.ishr, 1) := by decide +kernel
theorem dX8_nextOf_42 : decode cX8_nextOf 42 = .ok (.iconst 1, 1) := by decide +kernel
theorem dX8_nextOf_43 : decode cX8_nextOf 43 = .ok (.iand, 1) := by decide +kernel
theorem dX8_nextOf_44 : decode cX8_nextOf 44 = .ok (.ifCond .eq 25, 3) := by decide +kernel
theorem dX8_nextOf_47 : decode cX8_nextOf 47 = .ok (.aload_n 0, 1) := by decide +kernel
theorem dX8_nextOf_48 : decode cX8_nextOf 48 = .ok (.aload_n 1, 1) := by decide +kernel
theorem dX8_nextOf_49 : decode cX8_nextOf 49 = .ok (.getfield 28, 3) := by decide +kernel
theorem dX8_nextOf_52 : decode cX8_nextOf 52 = .ok (.iload 4, 2) := by decide +kernel
theorem dX8_nextOf_54 : decode cX8_nextOf 54 = .ok (.iaload, 1) := by decide +kernel
theorem dX8_nextOf_55 : decode cX8_nextOf 55 = .ok (.invokestatic 31, 3) := by decide +kernel
theorem dX8_nextOf_58 : decode cX8_nextOf 58 = .ok (.ifCond .eq 11, 3) := by decide +kernel
theorem dX8_nextOf_61 : decode cX8_nextOf 61 = .ok (.aload_n 1, 1) := by decide +kernel
theorem dX8_nextOf_62 : decode cX8_nextOf 62 = .ok (.getfield 28, 3) := by decide +kernel
theorem dX8_nextOf_65 : decode cX8_nextOf 65 = .ok (.iload 4, 2) := by decide +kernel
theorem dX8_nextOf_67 : decode cX8_nextOf 67 = .ok (.iaload, 1) := by decide +kernel
theorem dX8_nextOf_68 : decode cX8_nextOf 68 = .ok (.ireturn, 1) := by decide +kernel
theorem dX8_nextOf_69 : decode cX8_nextOf 69 = .ok (.iinc 4 1, 3) := by decide +kernel
theorem dX8_nextOf_72 : decode cX8_nextOf 72 = .ok (.goto (-69), 3) := by decide +kernel
theorem dX8_nextOf_75 : decode cX8_nextOf 75 = .ok (.iconst (-1), 1) := by decide +kernel
theorem dX8_nextOf_76 : decode cX8_nextOf 76 = .ok (.ireturn, 1) := by decide +kernel
theorem dX8_whoReach_0 : decode cX8_whoReach 0 = .ok (.iconst 1, 1) := by decide +kernel
theorem dX8_whoReach_1 : decode cX8_whoReach 1 = .ok (.iload_n 1, 1) := by decide +kernel
theorem dX8_whoReach_2 : decode cX8_whoReach 2 = .ok (.ishl, 1) := by decide +kernel
theorem dX8_whoReach_3 : decode cX8_whoReach 3 = .ok (.istore_n 3, 1) := by decide +kernel
theorem dX8_whoReach_4 : decode cX8_whoReach 4 = .ok (.iconst 0, 1) := by decide +kernel
theorem dX8_whoReach_5 : decode cX8_whoReach 5 = .ok (.istore 4, 2) := by decide +kernel
theorem dX8_whoReach_7 : decode cX8_whoReach 7 = .ok (.iconst 0, 1) := by decide +kernel
theorem dX8_whoReach_8 : decode cX8_whoReach 8 = .ok (.istore 5, 2) := by decide +kernel
theorem dX8_whoReach_10 : decode cX8_whoReach 10 = .ok (.iload 5, 2) := by decide +kernel
theorem dX8_whoReach_12 : decode cX8_whoReach 12 = .ok (.bipush 8, 2) := by decide +kernel
theorem dX8_whoReach_14 : decode cX8_whoReach 14 = .ok (.if_icmp .ge 62, 3) := by decide +kernel
theorem dX8_whoReach_17 : decode cX8_whoReach 17 = .ok (.iload_n 3, 1) := by decide +kernel
theorem dX8_whoReach_18 : decode cX8_whoReach 18 = .ok (.iload 4, 2) := by decide +kernel
theorem dX8_whoReach_20 : decode cX8_whoReach 20 = .ok (.if_icmp .eq 56, 3) := by decide +kernel
theorem dX8_whoReach_23 : decode cX8_whoReach 23 = .ok (.iload_n 3, 1) := by decide +kernel
theorem dX8_whoReach_24 : decode cX8_whoReach 24 = .ok (.istore 4, 2) := by decide +kernel
theorem dX8_whoReach_26 : decode cX8_whoReach 26 = .ok (.iconst 0, 1) := by decide +kernel
theorem dX8_whoReach_27 : decode cX8_whoReach 27 = .ok (.istore 6, 2) := by decide +kernel
theorem dX8_whoReach_29 : decode cX8_whoReach 29 = .ok (.iload 6, 2) := by decide +kernel
theorem dX8_whoReach_31 : decode cX8_whoReach 31 = .ok (.bipush 8, 2) := by decide +kernel
theorem dX8_whoReach_33 : decode cX8_whoReach 33 = .ok (.if_icmp .ge 37, 3) := by decide +kernel
theorem dX8_whoReach_36 : decode cX8_whoReach 36 = .ok (.iload_n 2, 1) := by decide +kernel
theorem dX8_whoReach_37 : decode cX8_whoReach 37 = .ok (.iload 6, 2) := by decide +kernel
theorem dX8_whoReach_39 : decode cX8_whoReach 39 = .ok (.ishr, 1) := by decide +kernel
theorem dX8_whoReach_40 : decode cX8_whoReach 40 = .ok (.iconst 1, 1) := by decide +kernel
theorem dX8_whoReach_41 : decode cX8_whoReach 41 = .ok (.iand, 1) := by decide +kernel
theorem dX8_whoReach_42 : decode cX8_whoReach 42 = .ok (.ifCond .ne 22, 3) := by decide +kernel
theorem dX8_whoReach_45 : decode cX8_whoReach 45 = .ok (.aload_n 0, 1) := by decide +kernel
theorem dX8_whoReach_46 : decode cX8_whoReach 46 = .ok (.getfield 15, 3) := by decide +kernel
theorem dX8_whoReach_49 : decode cX8_whoReach 49 = .ok (.iload 6, 2) := by decide +kernel
theorem dX8_whoReach_51 : decode cX8_whoReach 51 = .ok (.iaload, 1) := by decide +kernel
theorem dX8_whoReach_52 : decode cX8_whoReach 52 = .ok (.iload_n 3, 1) := by decide +kernel
theorem dX8_whoReach_53 : decode cX8_whoReach 53 = .ok (.iand, 1) := by decide +kernel
theorem dX8_whoReach_54 : decode cX8_whoReach 54 = .ok (.ifCond .eq 10, 3) := by decide +kernel
theorem dX8_whoReach_57 : decode cX8_whoReach 57 = .ok (.iload_n 3, 1) := by decide +kernel
theorem dX8_whoReach_58 : decode cX8_whoReach 58 = .ok (.iconst 1, 1) := by decide +kernel
theorem dX8_whoReach_59 : decode cX8_whoReach 59 = .ok (.iload 6, 2) := by decide +kernel
theorem dX8_whoReach_61 : decode cX8_whoReach 61 = .ok (.ishl, 1) := by decide +kernel
theorem dX8_whoReach_62 : decode cX8_whoReach 62 = .ok (.ior, 1) := by decide +kernel
theorem dX8_whoReach_63 : decode cX8_whoReach 63 = .ok (.istore_n 3, 1) := by decide +kernel
theorem dX8_whoReach_64 : decode cX8_whoReach 64 = .ok (.iinc 6 1, 3) := by decide +kernel
theorem dX8_whoReach_67 : decode cX8_whoReach 67 = .ok (.goto (-38), 3) := by decide +kernel
theorem dX8_whoReach_70 : decode cX8_whoReach 70 = .ok (.iinc 5 1, 3) := by decide +kernel
theorem dX8_whoReach_73 : decode cX8_whoReach 73 = .ok (.goto (-63), 3) := by decide +kernel
theorem dX8_whoReach_76 : decode cX8_whoReach 76 = .ok (.iload_n 3, 1) := by decide +kernel
theorem dX8_whoReach_77 : decode cX8_whoReach 77 = .ok (.ireturn, 1) := by decide +kernel
theorem dX8_leastOpen_0 : decode cX8_leastOpen 0 = .ok (.aload_n 1, 1) := by decide +kernel
theorem dX8_leastOpen_1 : decode cX8_leastOpen 1 = .ok (.getfield 52, 3) := by decide +kernel
theorem dX8_leastOpen_4 : decode cX8_leastOpen 4 = .ok (.aload_n 0, 1) := by decide +kernel
theorem dX8_leastOpen_5 : decode cX8_leastOpen 5 = .ok (.getfield 9, 3) := by decide +kernel
theorem dX8_leastOpen_8 : decode cX8_leastOpen 8 = .ok (.iconst 0, 1) := by decide +kernel
theorem dX8_leastOpen_9 : decode cX8_leastOpen 9 = .ok (.iaload, 1) := by decide +kernel
theorem dX8_leastOpen_10 : decode cX8_leastOpen 10 = .ok (.aaload, 1) := by decide +kernel
theorem dX8_leastOpen_11 : decode cX8_leastOpen 11 = .ok (.getfield 64, 3) := by decide +kernel
theorem dX8_leastOpen_14 : decode cX8_leastOpen 14 = .ok (.istore_n 2, 1) := by decide +kernel
theorem dX8_leastOpen_15 : decode cX8_leastOpen 15 = .ok (.iconst 1, 1) := by decide +kernel
theorem dX8_leastOpen_16 : decode cX8_leastOpen 16 = .ok (.istore_n 3, 1) := by decide +kernel
theorem dX8_leastOpen_17 : decode cX8_leastOpen 17 = .ok (.iload_n 3, 1) := by decide +kernel
theorem dX8_leastOpen_18 : decode cX8_leastOpen 18 = .ok (.aload_n 0, 1) := by decide +kernel
theorem dX8_leastOpen_19 : decode cX8_leastOpen 19 = .ok (.getfield 85, 3) := by decide +kernel
theorem dX8_leastOpen_22 : decode cX8_leastOpen 22 = .ok (.if_icmp .ge 28, 3) := by decide +kernel
theorem dX8_leastOpen_25 : decode cX8_leastOpen 25 = .ok (.iload_n 2, 1) := by decide +kernel
theorem dX8_leastOpen_26 : decode cX8_leastOpen 26 = .ok (.aload_n 1, 1) := by decide +kernel
theorem dX8_leastOpen_27 : decode cX8_leastOpen 27 = .ok (.getfield 52, 3) := by decide +kernel
theorem dX8_leastOpen_30 : decode cX8_leastOpen 30 = .ok (.aload_n 0, 1) := by decide +kernel
theorem dX8_leastOpen_31 : decode cX8_leastOpen 31 = .ok (.getfield 9, 3) := by decide +kernel
theorem dX8_leastOpen_34 : decode cX8_leastOpen 34 = .ok (.iload_n 3, 1) := by decide +kernel
theorem dX8_leastOpen_35 : decode cX8_leastOpen 35 = .ok (.iaload, 1) := by decide +kernel
theorem dX8_leastOpen_36 : decode cX8_leastOpen 36 = .ok (.aaload, 1) := by decide +kernel
theorem dX8_leastOpen_37 : decode cX8_leastOpen 37 = .ok (.getfield 64, 3) := by decide +kernel
theorem dX8_leastOpen_40 : decode cX8_leastOpen 40 = .ok (.invokestatic 94, 3) := by decide +kernel
theorem dX8_leastOpen_43 : decode cX8_leastOpen 43 = .ok (.istore_n 2, 1) := by decide +kernel
theorem dX8_leastOpen_44 : decode cX8_leastOpen 44 = .ok (.iinc 3 1, 3) := by decide +kernel
theorem dX8_leastOpen_47 : decode cX8_leastOpen 47 = .ok (.goto (-30), 3) := by decide +kernel
theorem dX8_leastOpen_50 : decode cX8_leastOpen 50 = .ok (.iload_n 2, 1) := by decide +kernel
theorem dX8_leastOpen_51 : decode cX8_leastOpen 51 = .ok (.ireturn, 1) := by decide +kernel
theorem dX9_init_0 : decode cX9_init 0 = .ok (.aload_n 0, 1) := by decide +kernel
theorem dX9_init_1 : decode cX9_init 1 = .ok (.invokespecial 1, 3) := by decide +kernel
theorem dX9_init_4 : decode cX9_init 4 = .ok (.return_, 1) := by decide +kernel
theorem dX9_copyFrom_0 : decode cX9_copyFrom 0 = .ok (.aload_n 0, 1) := by decide +kernel
theorem dX9_copyFrom_1 : decode cX9_copyFrom 1 = .ok (.aload_n 1, 1) := by decide +kernel
theorem dX9_copyFrom_2 : decode cX9_copyFrom 2 = .ok (.getfield 7, 3) := by decide +kernel
theorem dX9_copyFrom_5 : decode cX9_copyFrom 5 = .ok (.putfield 7, 3) := by decide +kernel
theorem dX9_copyFrom_8 : decode cX9_copyFrom 8 = .ok (.aload_n 0, 1) := by decide +kernel
theorem dX9_copyFrom_9 : decode cX9_copyFrom 9 = .ok (.aload_n 1, 1) := by decide +kernel
theorem dX9_copyFrom_10 : decode cX9_copyFrom 10 = .ok (.getfield 13, 3) := by decide +kernel
theorem dX9_copyFrom_13 : decode cX9_copyFrom 13 = .ok (.putfield 13, 3) := by decide +kernel
theorem dX9_copyFrom_16 : decode cX9_copyFrom 16 = .ok (.aload_n 0, 1) := by decide +kernel
theorem dX9_copyFrom_17 : decode cX9_copyFrom 17 = .ok (.aload_n 1, 1) := by decide +kernel
theorem dX9_copyFrom_18 : decode cX9_copyFrom 18 = .ok (.getfield 16, 3) := by decide +kernel
theorem dX9_copyFrom_21 : decode cX9_copyFrom 21 = .ok (.putfield 16, 3) := by decide +kernel
theorem dX9_copyFrom_24 : decode cX9_copyFrom 24 = .ok (.aload_n 0, 1) := by decide +kernel
theorem dX9_copyFrom_25 : decode cX9_copyFrom 25 = .ok (.aload_n 1, 1) := by decide +kernel
theorem dX9_copyFrom_26 : decode cX9_copyFrom 26 = .ok (.getfield 19, 3) := by decide +kernel
theorem dX9_copyFrom_29 : decode cX9_copyFrom 29 = .ok (.putfield 19, 3) := by decide +kernel
theorem dX9_copyFrom_32 : decode cX9_copyFrom 32 = .ok (.aload_n 0, 1) := by decide +kernel
theorem dX9_copyFrom_33 : decode cX9_copyFrom 33 = .ok (.aload_n 1, 1) := by decide +kernel
theorem dX9_copyFrom_34 : decode cX9_copyFrom 34 = .ok (.getfield 22, 3) := by decide +kernel
theorem dX9_copyFrom_37 : decode cX9_copyFrom 37 = .ok (.putfield 22, 3) := by decide +kernel
theorem dX9_copyFrom_40 : decode cX9_copyFrom 40 = .ok (.aload_n 0, 1) := by decide +kernel
theorem dX9_copyFrom_41 : decode cX9_copyFrom 41 = .ok (.aload_n 1, 1) := by decide +kernel
theorem dX9_copyFrom_42 : decode cX9_copyFrom 42 = .ok (.getfield 25, 3) := by decide +kernel
theorem dX9_copyFrom_45 : decode cX9_copyFrom 45 = .ok (.putfield 25, 3) := by decide +kernel
theorem dX9_copyFrom_48 : decode cX9_copyFrom 48 = .ok (.aload_n 0, 1) := by decide +kernel
theorem dX9_copyFrom_49 : decode cX9_copyFrom 49 = .ok (.aload_n 1, 1) := by decide +kernel
theorem dX9_copyFrom_50 : decode cX9_copyFrom 50 = .ok (.getfield 28, 3) := by decide +kernel
theorem dX9_copyFrom_53 : decode cX9_copyFrom 53 = .ok (.putfield 28, 3) := by decide +kernel
theorem dX9_copyFrom_56 : decode cX9_copyFrom 56 = .ok (.aload_n 0, 1) := by decide +kernel
theorem dX9_copyFrom_57 : decode cX9_copyFrom 57 = .ok (.aload_n 1, 1) := by decide +kernel
theorem dX9_copyFrom_58 : decode cX9_copyFrom 58 = .ok (.getfield 31, 3) := by decide +kernel
theorem dX9_copyFrom_61 : decode cX9_copyFrom 61 = .ok (.putfield 31, 3) := by decide +kernel
theorem dX9_copyFrom_64 : decode cX9_copyFrom 64 = .ok (.aload_n 0, 1) := by decide +kernel
theorem dX9_copyFrom_65 : decode cX9_copyFrom 65 = .ok (.aload_n 1, 1) := by decide +kernel
theorem dX9_copyFrom_66 : decode cX9_copyFrom 66 = .ok (.getfield 34, 3) := by decide +kernel
theorem dX9_copyFrom_69 : decode cX9_copyFrom 69 = .ok (.putfield 34, 3) := by decide +kernel
theorem dX9_copyFrom_72 : decode cX9_copyFrom 72 = .ok (.return_, 1) := by decide +kernel
theorem dX10_init_0 : decode cX10_init 0 = .ok (.aload_n 0, 1) := by decide +kernel
theorem dX10_init_1 : decode cX10_init 1 = .ok (.invokespecial 1, 3) := by decide +kernel
theorem dX10_init_4 : decode cX10_init 4 = .ok (.aload_n 0, 1) := by decide +kernel
theorem dX10_init_5 : decode cX10_init 5 = .ok (.new 7, 3) := by decide +kernel
theorem dX10_init_8 : decode cX10_init 8 = .ok (.dup, 1) := by decide +kernel
theorem dX10_init_9 : decode cX10_init 9 = .ok (.invokespecial 9, 3) := by decide +kernel
theorem dX10_init_12 : decode cX10_init 12 = .ok (.putfield 10, 3) := by decide +kernel
theorem dX10_init_15 : decode cX10_init 15 = .ok (.aload_n 0, 1) := by decide +kernel
theorem dX10_init_16 : decode cX10_init 16 = .ok (.new 16, 3) := by decide +kernel
theorem dX10_init_19 : decode cX10_init 19 = .ok (.dup, 1) := by decide +kernel
theorem dX10_init_20 : decode cX10_init 20 = .ok (.invokespecial 18, 3) := by decide +kernel
theorem dX10_init_23 : decode cX10_init 23 = .ok (.putfield 19, 3) := by decide +kernel
theorem dX10_init_26 : decode cX10_init 26 = .ok (.aload_n 0, 1) := by decide +kernel
theorem dX10_init_27 : decode cX10_init 27 = .ok (.new 23, 3) := by decide +kernel
theorem dX10_init_30 : decode cX10_init 30 = .ok (.dup, 1) := by decide +kernel
theorem dX10_init_31 : decode cX10_init 31 = .ok (.invokespecial 25, 3) := by decide +kernel
theorem dX10_init_34 : decode cX10_init 34 = .ok (.putfield 26, 3) := by decide +kernel
theorem dX10_init_37 : decode cX10_init 37 = .ok (.aload_n 0, 1) := by decide +kernel
theorem dX10_init_38 : decode cX10_init 38 = .ok (.new 23, 3) := by decide +kernel
theorem dX10_init_41 : decode cX10_init 41 = .ok (.dup, 1) := by decide +kernel
theorem dX10_init_42 : decode cX10_init 42 = .ok (.invokespecial 25, 3) := by decide +kernel
theorem dX10_init_45 : decode cX10_init 45 = .ok (.putfield 30, 3) := by decide +kernel
theorem dX10_init_48 : decode cX10_init 48 = .ok (.aload_n 0, 1) := by decide +kernel
theorem dX10_init_49 : decode cX10_init 49 = .ok (.new 33, 3) := by decide +kernel
theorem dX10_init_52 : decode cX10_init 52 = .ok (.dup, 1) := by decide +kernel
theorem dX10_init_53 : decode cX10_init 53 = .ok (.invokespecial 35, 3) := by decide +kernel
theorem dX10_init_56 : decode cX10_init 56 = .ok (.putfield 36, 3) := by decide +kernel
theorem dX10_init_59 : decode cX10_init 59 = .ok (.aload_n 0, 1) := by decide +kernel
theorem dX10_init_60 : decode cX10_init 60 = .ok (.new 40, 3) := by decide +kernel
theorem dX10_init_63 : decode cX10_init 63 = .ok (.dup, 1) := by decide +kernel
theorem dX10_init_64 : decode cX10_init 64 = .ok (.invokespecial 42, 3) := by decide +kernel
theorem dX10_init_67 : decode cX10_init 67 = .ok (.putfield 43, 3) := by decide +kernel
theorem dX10_init_70 : decode cX10_init 70 = .ok (.aload_n 0, 1) := by decide +kernel
theorem dX10_init_71 : decode cX10_init 71 = .ok (.new 47, 3) := by decide +kernel
theorem dX10_init_74 : decode cX10_init 74 = .ok (.dup, 1) := by decide +kernel
theorem dX10_init_75 : decode cX10_init 75 = .ok (.invokespecial 49, 3) := by decide +kernel
theorem dX10_init_78 : decode cX10_init 78 = .ok (.putfield 50, 3) := by decide +kernel
theorem dX10_init_81 : decode cX10_init 81 = .ok (.aload_n 0, 1) := by decide +kernel
theorem dX10_init_82 : decode cX10_init 82 = .ok (.new 54, 3) := by decide +kernel
theorem dX10_init_85 : decode cX10_init 85 = .ok (.dup, 1) := by decide +kernel
theorem dX10_init_86 : decode cX10_init 86 = .ok (.invokespecial 56, 3) := by decide +kernel
theorem dX10_init_89 : decode cX10_init 89 = .ok (.putfield 57, 3) := by decide +kernel
theorem dX10_init_92 : decode cX10_init 92 = .ok (.aload_n 0, 1) := by decide +kernel
theorem dX10_init_93 : decode cX10_init 93 = .ok (.new 61, 3) := by decide +kernel
theorem dX10_init_96 : decode cX10_init 96 = .ok (.dup, 1) := by decide +kernel
theorem dX10_init_97 : decode cX10_init 97 = .ok (.invokespecial 63, 3) := by decide +kernel
theorem dX10_init_100 : decode cX10_init 100 = .ok (.putfield 64, 3) := by decide +kernel
theorem dX10_init_103 : decode cX10_init 103 = .ok (.aload_n 0, 1) := by decide +kernel
theorem dX10_init_104 : decode cX10_init 104 = .ok (.iconst 3, 1) := by decide +kernel
theorem dX10_init_105 : decode cX10_init 105 = .ok (.newarray .int, 2) := by decide +kernel
theorem dX10_init_107 : decode cX10_init 107 = .ok (.putfield 68, 3) := by decide +kernel
theorem dX10_init_110 : decode cX10_init 110 = .ok (.aload_n 0, 1) := by decide +kernel
theorem dX10_init_111 : decode cX10_init 111 = .ok (.iconst (-1), 1) := by decide +kernel
theorem dX10_init_112 : decode cX10_init 112 = .ok (.putfield 72, 3) := by decide +kernel
theorem dX10_init_115 : decode cX10_init 115 = .ok (.return_, 1) := by decide +kernel
theorem dX10_feed_0 : decode cX10_feed 0 = .ok (.aload_n 0, 1) := by decide +kernel
theorem dX10_feed_1 : decode cX10_feed 1 = .ok (.getfield 10, 3) := by decide +kernel
theorem dX10_feed_4 : decode cX10_feed 4 = .ok (.getfield 76, 3) := by decide +kernel
theorem dX10_feed_7 : decode cX10_feed 7 = .ok (.bipush 20, 2) := by decide +kernel
theorem dX10_feed_9 : decode cX10_feed 9 = .ok (.iadd, 1) := by decide +kernel
theorem dX10_feed_10 : decode cX10_feed 10 = .ok (.sipush 500, 3) := by decide +kernel
theorem dX10_feed_13 : decode cX10_feed 13 = .ok (.if_icmp .le 5, 3) := by decide +kernel
theorem dX10_feed_16 : decode cX10_feed 16 = .ok (.iconst (-1), 1) := by decide +kernel
theorem dX10_feed_17 : decode cX10_feed 17 = .ok (.ireturn, 1) := by decide +kernel
theorem dX10_feed_18 : decode cX10_feed 18 = .ok (.aload_n 0, 1) := by decide +kernel
theorem dX10_feed_19 : decode cX10_feed 19 = .ok (.getfield 10, 3) := by decide +kernel
theorem dX10_feed_22 : decode cX10_feed 22 = .ok (.iload_n 1, 1) := by decide +kernel
theorem dX10_feed_23 : decode cX10_feed 23 = .ok (.invokevirtual 79, 3) := by decide +kernel
theorem dX10_feed_26 : decode cX10_feed 26 = .ok (.aload_n 0, 1) := by decide +kernel
theorem dX10_feed_27 : decode cX10_feed 27 = .ok (.getfield 10, 3) := by decide +kernel
theorem dX10_feed_30 : decode cX10_feed 30 = .ok (.iload_n 2, 1) := by decide +kernel
theorem dX10_feed_31 : decode cX10_feed 31 = .ok (.invokevirtual 79, 3) := by decide +kernel
theorem dX10_feed_34 : decode cX10_feed 34 = .ok (.aload_n 0, 1) := by decide +kernel
theorem dX10_feed_35 : decode cX10_feed 35 = .ok (.getfield 10, 3) := by decide +kernel
theorem dX10_feed_38 : decode cX10_feed 38 = .ok (.iload_n 3, 1) := by decide +kernel
theorem dX10_feed_39 : decode cX10_feed 39 = .ok (.invokevirtual 79, 3) := by decide +kernel
theorem dX10_feed_42 : decode cX10_feed 42 = .ok (.aload_n 0, 1) := by decide +kernel
theorem dX10_feed_43 : decode cX10_feed 43 = .ok (.getfield 10, 3) := by decide +kernel
theorem dX10_feed_46 : decode cX10_feed 46 = .ok (.iload 4, 2) := by decide +kernel
theorem dX10_feed_48 : decode cX10_feed 48 = .ok (.invokevirtual 79, 3) := by decide +kernel
theorem dX10_feed_51 : decode cX10_feed 51 = .ok (.aload_n 0, 1) := by decide +kernel
theorem dX10_feed_52 : decode cX10_feed 52 = .ok (.getfield 10, 3) := by decide +kernel
theorem dX10_feed_55 : decode cX10_feed 55 = .ok (.iload 5, 2) := by decide +kernel
theorem dX10_feed_57 : decode cX10_feed 57 = .ok (.invokevirtual 79, 3) := by decide +kernel
theorem dX10_feed_60 : decode cX10_feed 60 = .ok (.aload_n 0, 1) := by decide +kernel
theorem dX10_feed_61 : decode cX10_feed 61 = .ok (.getfield 10, 3) := by decide +kernel
theorem dX10_feed_64 : decode cX10_feed 64 = .ok (.getfield 76, 3) := by decide +kernel
theorem dX10_feed_67 : decode cX10_feed 67 = .ok (.ireturn, 1) := by decide +kernel
theorem dX10_text_0 : decode cX10_text 0 = .ok (.aload_n 0, 1) := by decide +kernel
theorem dX10_text_1 : decode cX10_text 1 = .ok (.iload_n 1, 1) := by decide +kernel
theorem dX10_text_2 : decode cX10_text 2 = .ok (.iconst 0, 1) := by decide +kernel
theorem dX10_text_3 : decode cX10_text 3 = .ok (.aload_n 0, 1) := by decide +kernel
theorem dX10_text_4 : decode cX10_text 4 = .ok (.getfield 10, 3) := by decide +kernel
theorem dX10_text_7 : decode cX10_text 7 = .ok (.getfield 76, 3) := by decide +kernel
theorem dX10_text_10 : decode cX10_text 10 = .ok (.invokevirtual 83, 3) := by decide +kernel
theorem dX10_text_13 : decode cX10_text 13 = .ok (.aload_n 0, 1) := by decide +kernel
theorem dX10_text_14 : decode cX10_text 14 = .ok (.getfield 10, 3) := by decide +kernel
theorem dX10_text_17 : decode cX10_text 17 = .ok (.iload_n 1, 1) := by decide +kernel
theorem dX10_text_18 : decode cX10_text 18 = .ok (.invokevirtual 87, 3) := by decide +kernel
theorem dX10_text_21 : decode cX10_text 21 = .ok (.aload_n 0, 1) := by decide +kernel
theorem dX10_text_22 : decode cX10_text 22 = .ok (.aload_n 0, 1) := by decide +kernel
theorem dX10_text_23 : decode cX10_text 23 = .ok (.getfield 10, 3) := by decide +kernel
theorem dX10_text_26 : decode cX10_text 26 = .ok (.getfield 90, 3) := by decide +kernel
theorem dX10_text_29 : decode cX10_text 29 = .ok (.putfield 72, 3) := by decide +kernel
theorem dX10_text_32 : decode cX10_text 32 = .ok (.aload_n 0, 1) := by decide +kernel
theorem dX10_text_33 : decode cX10_text 33 = .ok (.getfield 10, 3) := by decide +kernel
theorem dX10_text_36 : decode cX10_text 36 = .ok (.getfield 91, 3) := by decide +kernel
theorem dX10_text_39 : decode cX10_text 39 = .ok (.ifCond .eq 14, 3) := by decide +kernel
theorem dX10_text_42 : decode cX10_text 42 = .ok (.aload_n 0, 1) := by decide +kernel
theorem dX10_text_43 : decode cX10_text 43 = .ok (.getfield 10, 3) := by decide +kernel
theorem dX10_text_46 : decode cX10_text 46 = .ok (.getfield 91, 3) := by decide +kernel
theorem dX10_text_49 : decode cX10_text 49 = .ok (.bipush 10, 2) := by decide +kernel
theorem dX10_text_51 : decode cX10_text 51 = .ok (.isub, 1) := by decide +kernel
theorem dX10_text_52 : decode cX10_text 52 = .ok (.ireturn, 1) := by decide +kernel
theorem dX10_text_53 : decode cX10_text 53 = .ok (.aload_n 0, 1) := by decide +kernel
theorem dX10_text_54 : decode cX10_text 54 = .ok (.getfield 19, 3) := by decide +kernel
theorem dX10_text_57 : decode cX10_text 57 = .ok (.aload_n 0, 1) := by decide +kernel
theorem dX10_text_58 : decode cX10_text 58 = .ok (.getfield 26, 3) := by decide +kernel
theorem dX10_text_61 : decode cX10_text 61 = .ok (.invokevirtual 94, 3) := by decide +kernel
theorem dX10_text_64 : decode cX10_text 64 = .ok (.aload_n 0, 1) := by decide +kernel
theorem dX10_text_65 : decode cX10_text 65 = .ok (.getfield 26, 3) := by decide +kernel
theorem dX10_text_68 : decode cX10_text 68 = .ok (.aload_n 0, 1) := by decide +kernel
theorem dX10_text_69 : decode cX10_text 69 = .ok (.getfield 10, 3) := by decide +kernel
theorem dX10_text_72 : decode cX10_text 72 = .ok (.getfield 98, 3) := by decide +kernel
theorem dX10_text_75 : decode cX10_text 75 = .ok (.invokevirtual 101, 3) := by decide +kernel
theorem dX10_text_78 : decode cX10_text 78 = .ok (.aload_n 0, 1) := by decide +kernel
theorem dX10_text_79 : decode cX10_text 79 = .ok (.getfield 26, 3) := by decide +kernel
theorem dX10_text_82 : decode cX10_text 82 = .ok (.getfield 104, 3) := by decide +kernel
theorem dX10_text_85 : decode cX10_text 85 = .ok (.ireturn, 1) := by decide +kernel
theorem dX10_fault_0 : decode cX10_fault 0 = .ok (.aload_n 0, 1) := by decide +kernel
theorem dX10_fault_1 : decode cX10_fault 1 = .ok (.getfield 72, 3) := by decide +kernel
theorem dX10_fault_4 : decode cX10_fault 4 = .ok (.ireturn, 1) := by decide +kernel
theorem dX10_sale_0 : decode cX10_sale 0 = .ok (.aload_n 0, 1) := by decide +kernel
theorem dX10_sale_1 : decode cX10_sale 1 = .ok (.iload_n 1, 1) := by decide +kernel
theorem dX10_sale_2 : decode cX10_sale 2 = .ok (.invokevirtual 107, 3) := by decide +kernel
theorem dX10_sale_5 : decode cX10_sale 5 = .ok (.aload_n 0, 1) := by decide +kernel
theorem dX10_sale_6 : decode cX10_sale 6 = .ok (.iload_n 2, 1) := by decide +kernel
theorem dX10_sale_7 : decode cX10_sale 7 = .ok (.invokevirtual 107, 3) := by decide +kernel
theorem dX10_sale_10 : decode cX10_sale 10 = .ok (.iload_n 1, 1) := by decide +kernel
theorem dX10_sale_11 : decode cX10_sale 11 = .ok (.iload_n 2, 1) := by decide +kernel
theorem dX10_sale_12 : decode cX10_sale 12 = .ok (.if_icmp .ne 7, 3) := by decide +kernel
theorem dX10_sale_15 : decode cX10_sale 15 = .ok (.aload_n 0, 1) := by decide +kernel
theorem dX10_sale_16 : decode cX10_sale 16 = .ok (.invokevirtual 110, 3) := by decide +kernel
theorem dX10_sale_19 : decode cX10_sale 19 = .ok (.aload_n 0, 1) := by decide +kernel
theorem dX10_sale_20 : decode cX10_sale 20 = .ok (.iload_n 3, 1) := by decide +kernel
theorem dX10_sale_21 : decode cX10_sale 21 = .ok (.iconst 1, 1) := by decide +kernel
theorem dX10_sale_22 : decode cX10_sale 22 = .ok (.sipush 1000, 3) := by decide +kernel
theorem dX10_sale_25 : decode cX10_sale 25 = .ok (.invokevirtual 83, 3) := by decide +kernel
theorem dX10_sale_28 : decode cX10_sale 28 = .ok (.aload_n 0, 1) := by decide +kernel
theorem dX10_sale_29 : decode cX10_sale 29 = .ok (.iload 4, 2) := by decide +kernel
theorem dX10_sale_31 : decode cX10_sale 31 = .ok (.iconst 1, 1) := by decide +kernel
theorem dX10_sale_32 : decode cX10_sale 32 = .ok (.sipush 10000, 3) := by decide +kernel
theorem dX10_sale_35 : decode cX10_sale 35 = .ok (.invokevirtual 83, 3) := by decide +kernel
theorem dX10_sale_38 : decode cX10_sale 38 = .ok (.aload_n 0, 1) := by decide +kernel
theorem dX10_sale_39 : decode cX10_sale 39 = .ok (.iload 5, 2) := by decide +kernel
theorem dX10_sale_41 : decode cX10_sale 41 = .ok (.iconst 0, 1) := by decide +kernel
theorem dX10_sale_42 : decode cX10_sale 42 = .ok (.sipush 999, 3) := by decide +kernel
theorem dX10_sale_45 : decode cX10_sale 45 = .ok (.invokevirtual 83, 3) := by decide +kernel
theorem dX10_sale_48 : decode cX10_sale 48 = .ok (.aload_n 0, 1) := by decide +kernel
theorem dX10_sale_49 : decode cX10_sale 49 = .ok (.getfield 26, 3) := by decide +kernel
theorem dX10_sale_52 : decode cX10_sale 52 = .ok (.getfield 104, 3) := by decide +kernel
theorem dX10_sale_55 : decode cX10_sale 55 = .ok (.bipush 24, 2) := by decide +kernel
theorem dX10_sale_57 : decode cX10_sale 57 = .ok (.if_icmp .lt 7, 3) := by decide +kernel
theorem dX10_sale_60 : decode cX10_sale 60 = .ok (.aload_n 0, 1) := by decide +kernel
theorem dX10_sale_61 : decode cX10_sale 61 = .ok (.invokevirtual 113, 3) := by decide +kernel
theorem dX10_sale_64 : decode cX10_sale 64 = .ok (.aload_n 0, 1) := by decide +kernel
theorem dX10_sale_65 : decode cX10_sale 65 = .ok (.getfield 19, 3) := by decide +kernel
theorem dX10_sale_68 : decode cX10_sale 68 = .ok (.aload_n 0, 1) := by decide +kernel
theorem dX10_sale_69 : decode cX10_sale 69 = .ok (.getfield 26, 3) := by decide +kernel
theorem dX10_sale_72 : decode cX10_sale 72 = .ok (.invokevirtual 94, 3) := by decide +kernel
theorem dX10_sale_75 : decode cX10_sale 75 = .ok (.aload_n 0, 1) := by decide +kernel
theorem dX10_sale_76 : decode cX10_sale 76 = .ok (.getfield 26, 3) := by decide +kernel
theorem dX10_sale_79 : decode cX10_sale 79 = .ok (.iload_n 1, 1) := by decide +kernel
theorem dX10_sale_80 : decode cX10_sale 80 = .ok (.iload_n 2, 1) := by decide +kernel
theorem dX10_sale_81 : decode cX10_sale 81 = .ok (.iload_n 3, 1) := by decide +kernel
theorem dX10_sale_82 : decode cX10_sale 82 = .ok (.iload 4, 2) := by decide +kernel
theorem dX10_sale_84 : decode cX10_sale 84 = .ok (.iload 5, 2) := by decide +kernel
theorem dX10_sale_86 : decode cX10_sale 86 = .ok (.invokevirtual 116, 3) := by decide +kernel
theorem dX10_sale_89 : decode cX10_sale 89 = .ok (.aload_n 0, 1) := by decide +kernel
theorem dX10_sale_90 : decode cX10_sale 90 = .ok (.getfield 26, 3) := by decide +kernel
theorem dX10_sale_93 : decode cX10_sale 93 = .ok (.getfield 104, 3) := by decide +kernel
theorem dX10_sale_96 : decode cX10_sale 96 = .ok (.iconst 1, 1) := by decide +kernel
theorem dX10_sale_97 : decode cX10_sale 97 = .ok (.isub, 1) := by decide +kernel
theorem dX10_sale_98 : decode cX10_sale 98 = .ok (.ireturn, 1) := by decide +kernel
theorem dX10_stock_0 : decode cX10_stock 0 = .ok (.aload_n 0, 1) := by decide +kernel
theorem dX10_stock_1 : decode cX10_stock 1 = .ok (.iload_n 1, 1) := by decide +kernel
theorem dX10_stock_2 : decode cX10_stock 2 = .ok (.invokevirtual 107, 3) := by decide +kernel
theorem dX10_stock_5 : decode cX10_stock 5 = .ok (.aload_n 0, 1) := by decide +kernel
theorem dX10_stock_6 : decode cX10_stock 6 = .ok (.iload_n 2, 1) := by decide +kernel
theorem dX10_stock_7 : decode cX10_stock 7 = .ok (.iconst 0, 1) := by decide +kernel
theorem dX10_stock_8 : decode cX10_stock 8 = .ok (.ldc 120, 2) := by decide +kernel
theorem dX10_stock_10 : decode cX10_stock 10 = .ok (.invokevirtual 83, 3) := by decide +kernel
theorem dX10_stock_13 : decode cX10_stock 13 = .ok (.aload_n 0, 1) := by decide +kernel
theorem dX10_stock_14 : decode cX10_stock 14 = .ok (.getfield 19, 3) := by decide +kernel
theorem dX10_stock_17 : decode cX10_stock 17 = .ok (.aload_n 0, 1) := by decide +kernel
theorem dX10_stock_18 : decode cX10_stock 18 = .ok (.getfield 26, 3) := by decide +kernel
theorem dX10_stock_21 : decode cX10_stock 21 = .ok (.invokevirtual 94, 3) := by decide +kernel
theorem dX10_stock_24 : decode cX10_stock 24 = .ok (.aload_n 0, 1) := by decide +kernel
theorem dX10_stock_25 : decode cX10_stock 25 = .ok (.getfield 26, 3) := by decide +kernel
theorem dX10_stock_28 : decode cX10_stock 28 = .ok (.getfield 121, 3) := by decide +kernel
theorem dX10_stock_31 : decode cX10_stock 31 = .ok (.iload_n 1, 1) := by decide +kernel
theorem dX10_stock_32 : decode cX10_stock 32 = .ok (.aaload, 1) := by decide +kernel
theorem dX10_stock_33 : decode cX10_stock 33 = .ok (.getfield 125, 3) := by decide +kernel
theorem dX10_stock_36 : decode cX10_stock 36 = .ok (.istore_n 3, 1) := by decide +kernel
theorem dX10_stock_37 : decode cX10_stock 37 = .ok (.aload_n 0, 1) := by decide +kernel
theorem dX10_stock_38 : decode cX10_stock 38 = .ok (.getfield 26, 3) := by decide +kernel
theorem dX10_stock_41 : decode cX10_stock 41 = .ok (.getfield 121, 3) := by decide +kernel
theorem dX10_stock_44 : decode cX10_stock 44 = .ok (.iload_n 1, 1) := by decide +kernel
theorem dX10_stock_45 : decode cX10_stock 45 = .ok (.aaload, 1) := by decide +kernel
theorem dX10_stock_46 : decode cX10_stock 46 = .ok (.iload_n 2, 1) := by decide +kernel
theorem dX10_stock_47 : decode cX10_stock 47 = .ok (.putfield 125, 3) := by decide +kernel
theorem dX10_stock_50 : decode cX10_stock 50 = .ok (.iload_n 3, 1) := by decide +kernel
theorem dX10_stock_51 : decode cX10_stock 51 = .ok (.ireturn, 1) := by decide +kernel
theorem dX10_mark_0 : decode cX10_mark 0 = .ok (.aload_n 0, 1) := by decide +kernel
theorem dX10_mark_1 : decode cX10_mark 1 = .ok (.iload_n 1, 1) := by decide +kernel
theorem dX10_mark_2 : decode cX10_mark 2 = .ok (.iconst 1, 1) := by decide +kernel
theorem dX10_mark_3 : decode cX10_mark 3 = .ok (.sipush 10000, 3) := by decide +kernel
theorem dX10_mark_6 : decode cX10_mark 6 = .ok (.invokevirtual 83, 3) := by decide +kernel
theorem dX10_mark_9 : decode cX10_mark 9 = .ok (.aload_n 0, 1) := by decide +kernel
theorem dX10_mark_10 : decode cX10_mark 10 = .ok (.getfield 19, 3) := by decide +kernel
theorem dX10_mark_13 : decode cX10_mark 13 = .ok (.aload_n 0, 1) := by decide +kernel
theorem dX10_mark_14 : decode cX10_mark 14 = .ok (.getfield 26, 3) := by decide +kernel
theorem dX10_mark_17 : decode cX10_mark 17 = .ok (.invokevirtual 94, 3) := by decide +kernel
theorem dX10_mark_20 : decode cX10_mark 20 = .ok (.aload_n 0, 1) := by decide +kernel
theorem dX10_mark_21 : decode cX10_mark 21 = .ok (.getfield 26, 3) := by decide +kernel
theorem dX10_mark_24 : decode cX10_mark 24 = .ok (.getfield 130, 3) := by decide +kernel
theorem dX10_mark_27 : decode cX10_mark 27 = .ok (.istore_n 2, 1) := by decide +kernel
theorem dX10_mark_28 : decode cX10_mark 28 = .ok (.aload_n 0, 1) := by decide +kernel
theorem dX10_mark_29 : decode cX10_mark 29 = .ok (.getfield 26, 3) := by decide +kernel
theorem dX10_mark_32 : decode cX10_mark 32 = .ok (.iload_n 1, 1) := by decide +kernel
theorem dX10_mark_33 : decode cX10_mark 33 = .ok (.putfield 130, 3) := by decide +kernel
theorem dX10_mark_36 : decode cX10_mark 36 = .ok (.iload_n 2, 1) := by decide +kernel
theorem dX10_mark_37 : decode cX10_mark 37 = .ok (.ireturn, 1) := by decide +kernel
theorem dX10_night_0 : decode cX10_night 0 = .ok (.aload_n 0, 1) := by decide +kernel
theorem dX10_night_1 : decode cX10_night 1 = .ok (.getfield 26, 3) := by decide +kernel
theorem dX10_night_4 : decode cX10_night 4 = .ok (.getfield 133, 3) := by decide +kernel
theorem dX10_night_7 : decode cX10_night 7 = .ok (.sipush 5000, 3) := by decide +kernel
theorem dX10_night_10 : decode cX10_night 10 = .ok (.if_icmp .lt 7, 3) := by decide +kernel
theorem dX10_night_13 : decode cX10_night 13 = .ok (.aload_n 0, 1) := by decide +kernel
theorem dX10_night_14 : decode cX10_night 14 = .ok (.invokevirtual 113, 3) := by decide +kernel
theorem dX10_night_17 : decode cX10_night 17 = .ok (.aload_n 0, 1) := by decide +kernel
theorem dX10_night_18 : decode cX10_night 18 = .ok (.getfield 19, 3) := by decide +kernel
theorem dX10_night_21 : decode cX10_night 21 = .ok (.aload_n 0, 1) := by decide +kernel
theorem dX10_night_22 : decode cX10_night 22 = .ok (.getfield 26, 3) := by decide +kernel
theorem dX10_night_25 : decode cX10_night 25 = .ok (.invokevirtual 94, 3) := by decide +kernel
theorem dX10_night_28 : decode cX10_night 28 = .ok (.aload_n 0, 1) := by decide +kernel
theorem dX10_night_29 : decode cX10_night 29 = .ok (.getfield 64, 3) := by decide +kernel
theorem dX10_night_32 : decode cX10_night 32 = .ok (.aload_n 0, 1) := by decide +kernel
theorem dX10_night_33 : decode cX10_night 33 = .ok (.getfield 26, 3) := by decide +kernel
theorem dX10_night_36 : decode cX10_night 36 = .ok (.invokevirtual 136, 3) := by decide +kernel
theorem dX10_night_39 : decode cX10_night 39 = .ok (.aload_n 0, 1) := by decide +kernel
theorem dX10_night_40 : decode cX10_night 40 = .ok (.getfield 64, 3) := by decide +kernel
theorem dX10_night_43 : decode cX10_night 43 = .ok (.getfield 139, 3) := by decide +kernel
theorem dX10_night_46 : decode cX10_night 46 = .ok (.ireturn, 1) := by decide +kernel
theorem dX10_buyin_0 : decode cX10_buyin 0 = .ok (.aload_n 0, 1) := by decide +kernel
theorem dX10_buyin_1 : decode cX10_buyin 1 = .ok (.iload_n 1, 1) := by decide +kernel
theorem dX10_buyin_2 : decode cX10_buyin 2 = .ok (.invokevirtual 142, 3) := by decide +kernel
theorem dX10_buyin_5 : decode cX10_buyin 5 = .ok (.aload_n 0, 1) := by decide +kernel
theorem dX10_buyin_6 : decode cX10_buyin 6 = .ok (.getfield 26, 3) := by decide +kernel
theorem dX10_buyin_9 : decode cX10_buyin 9 = .ok (.iload_n 1, 1) := by decide +kernel
theorem dX10_buyin_10 : decode cX10_buyin 10 = .ok (.invokevirtual 145, 3) := by decide +kernel
theorem dX10_buyin_13 : decode cX10_buyin 13 = .ok (.ifCond .ne 7, 3) := by decide +kernel
theorem dX10_buyin_16 : decode cX10_buyin 16 = .ok (.aload_n 0, 1) := by decide +kernel
theorem dX10_buyin_17 : decode cX10_buyin 17 = .ok (.invokevirtual 113, 3) := by decide +kernel
theorem dX10_buyin_20 : decode cX10_buyin 20 = .ok (.aload_n 0, 1) := by decide +kernel
theorem dX10_buyin_21 : decode cX10_buyin 21 = .ok (.iload_n 2, 1) := by decide +kernel
theorem dX10_buyin_22 : decode cX10_buyin 22 = .ok (.iconst 1, 1) := by decide +kernel
theorem dX10_buyin_23 : decode cX10_buyin 23 = .ok (.aload_n 0, 1) := by decide +kernel
theorem dX10_buyin_24 : decode cX10_buyin 24 = .ok (.getfield 26, 3) := by decide +kernel
theorem dX10_buyin_27 : decode cX10_buyin 27 = .ok (.getfield 149, 3) := by decide +kernel
theorem dX10_buyin_30 : decode cX10_buyin 30 = .ok (.iload_n 1, 1) := by decide +kernel
theorem dX10_buyin_31 : decode cX10_buyin 31 = .ok (.aaload, 1) := by decide +kernel
theorem dX10_buyin_32 : decode cX10_buyin 32 = .ok (.getfield 153, 3) := by decide +kernel
theorem dX10_buyin_35 : decode cX10_buyin 35 = .ok (.invokevirtual 83, 3) := by decide +kernel
theorem dX10_buyin_38 : decode cX10_buyin 38 = .ok (.aload_n 0, 1) := by decide +kernel
theorem dX10_buyin_39 : decode cX10_buyin 39 = .ok (.getfield 19, 3) := by decide +kernel
theorem dX10_buyin_42 : decode cX10_buyin 42 = .ok (.aload_n 0, 1) := by decide +kernel
theorem dX10_buyin_43 : decode cX10_buyin 43 = .ok (.getfield 26, 3) := by decide +kernel
theorem dX10_buyin_46 : decode cX10_buyin 46 = .ok (.invokevirtual 94, 3) := by decide +kernel
theorem dX10_buyin_49 : decode cX10_buyin 49 = .ok (.aload_n 0, 1) := by decide +kernel
theorem dX10_buyin_50 : decode cX10_buyin 50 = .ok (.getfield 36, 3) := by decide +kernel
theorem dX10_buyin_53 : decode cX10_buyin 53 = .ok (.aload_n 0, 1) := by decide +kernel
theorem dX10_buyin_54 : decode cX10_buyin 54 = .ok (.getfield 26, 3) := by decide +kernel
theorem dX10_buyin_57 : decode cX10_buyin 57 = .ok (.invokevirtual 158, 3) := by decide +kernel
theorem dX10_buyin_60 : decode cX10_buyin 60 = .ok (.aload_n 0, 1) := by decide +kernel
theorem dX10_buyin_61 : decode cX10_buyin 61 = .ok (.getfield 43, 3) := by decide +kernel
theorem dX10_buyin_64 : decode cX10_buyin 64 = .ok (.aload_n 0, 1) := by decide +kernel
theorem dX10_buyin_65 : decode cX10_buyin 65 = .ok (.getfield 26, 3) := by decide +kernel
theorem dX10_buyin_68 : decode cX10_buyin 68 = .ok (.aload_n 0, 1) := by decide +kernel
theorem dX10_buyin_69 : decode cX10_buyin 69 = .ok (.getfield 36, 3) := by decide +kernel
theorem dX10_buyin_72 : decode cX10_buyin 72 = .ok (.iload_n 1, 1) := by decide +kernel
theorem dX10_buyin_73 : decode cX10_buyin 73 = .ok (.iload_n 2, 1) := by decide +kernel
theorem dX10_buyin_74 : decode cX10_buyin 74 = .ok (.invokevirtual 161, 3) := by decide +kernel
theorem dX10_buyin_77 : decode cX10_buyin 77 = .ok (.aload_n 0, 1) := by decide +kernel
theorem dX10_buyin_78 : decode cX10_buyin 78 = .ok (.getfield 26, 3) := by decide +kernel
theorem dX10_buyin_81 : decode cX10_buyin 81 = .ok (.getfield 149, 3) := by decide +kernel
theorem dX10_buyin_84 : decode cX10_buyin 84 = .ok (.iload_n 1, 1) := by decide +kernel
theorem dX10_buyin_85 : decode cX10_buyin 85 = .ok (.aaload, 1) := by decide +kernel
theorem dX10_buyin_86 : decode cX10_buyin 86 = .ok (.getfield 153, 3) := by decide +kernel
theorem dX10_buyin_89 : decode cX10_buyin 89 = .ok (.ireturn, 1) := by decide +kernel
theorem dX10_undo_0 : decode cX10_undo 0 = .ok (.aload_n 0, 1) := by decide +kernel
theorem dX10_undo_1 : decode cX10_undo 1 = .ok (.getfield 19, 3) := by decide +kernel
theorem dX10_undo_4 : decode cX10_undo 4 = .ok (.aload_n 0, 1) := by decide +kernel
theorem dX10_undo_5 : decode cX10_undo 5 = .ok (.getfield 26, 3) := by decide +kernel
theorem dX10_undo_8 : decode cX10_undo 8 = .ok (.invokevirtual 165, 3) := by decide +kernel
theorem dX10_undo_11 : decode cX10_undo 11 = .ok (.ireturn, 1) := by decide +kernel
theorem dX10_told_0 : decode cX10_told 0 = .ok (.aload_n 0, 1) := by decide +kernel
theorem dX10_told_1 : decode cX10_told 1 = .ok (.iload_n 1, 1) := by decide +kernel
theorem dX10_told_2 : decode cX10_told 2 = .ok (.iconst 0, 1) := by decide +kernel
theorem dX10_told_3 : decode cX10_told 3 = .ok (.bipush 10, 2) := by decide +kernel
theorem dX10_told_5 : decode cX10_told 5 = .ok (.invokevirtual 83, 3) := by decide +kernel
theorem dX10_told_8 : decode cX10_told 8 = .ok (.iload_n 1, 1) := by decide +kernel
theorem dX10_told_9 : decode cX10_told 9 = .ok (.tableswitch 137 0 9 #[55, 63, 71, 79, 87, 95, 103, 111, 119, 129], 55) := by decide +kernel
theorem dX10_told_64 : decode cX10_told 64 = .ok (.aload_n 0, 1) := by decide +kernel
theorem dX10_told_65 : decode cX10_told 65 = .ok (.getfield 26, 3) := by decide +kernel
theorem dX10_told_68 : decode cX10_told 68 = .ok (.getfield 169, 3) := by decide +kernel
theorem dX10_told_71 : decode cX10_told 71 = .ok (.ireturn, 1) := by decide +kernel
theorem dX10_told_72 : decode cX10_told 72 = .ok (.aload_n 0, 1) := by decide +kernel
theorem dX10_told_73 : decode cX10_told 73 = .ok (.getfield 26, 3) := by decide +kernel
theorem dX10_told_76 : decode cX10_told 76 = .ok (.getfield 104, 3) := by decide +kernel
theorem dX10_told_79 : decode cX10_told 79 = .ok (.ireturn, 1) := by decide +kernel
theorem dX10_told_80 : decode cX10_told 80 = .ok (.aload_n 0, 1) := by decide +kernel
theorem dX10_told_81 : decode cX10_told 81 = .ok (.getfield 26, 3) := by decide +kernel
theorem dX10_told_84 : decode cX10_told 84 = .ok (.getfield 133, 3) := by decide +kernel
theorem dX10_told_87 : decode cX10_told 87 = .ok (.ireturn, 1) := by decide +kernel
theorem dX10_told_88 : decode cX10_told 88 = .ok (.aload_n 0, 1) := by decide +kernel
theorem dX10_told_89 : decode cX10_told 89 = .ok (.getfield 26, 3) := by decide +kernel
theorem dX10_told_92 : decode cX10_told 92 = .ok (.getfield 130, 3) := by decide +kernel
theorem dX10_told_95 : decode cX10_told 95 = .ok (.ireturn, 1) := by decide +kernel
theorem dX10_told_96 : decode cX10_told 96 = .ok (.aload_n 0, 1) := by decide +kernel
theorem dX10_told_97 : decode cX10_told 97 = .ok (.getfield 26, 3) := by decide +kernel
theorem dX10_told_100 : decode cX10_told 100 = .ok (.getfield 172, 3) := by decide +kernel
theorem dX10_told_103 : decode cX10_told 103 = .ok (.ireturn, 1) := by decide +kernel
theorem dX10_told_104 : decode cX10_told 104 = .ok (.aload_n 0, 1) := by decide +kernel
theorem dX10_told_105 : decode cX10_told 105 = .ok (.getfield 26, 3) := by decide +kernel
theorem dX10_told_108 : decode cX10_told 108 = .ok (.getfield 175, 3) := by decide +kernel
theorem dX10_told_111 : decode cX10_told 111 = .ok (.ireturn, 1) := by decide +kernel
theorem dX10_told_112 : decode cX10_told 112 = .ok (.aload_n 0, 1) := by decide +kernel
theorem dX10_told_113 : decode cX10_told 113 = .ok (.getfield 26, 3) := by decide +kernel
theorem dX10_told_116 : decode cX10_told 116 = .ok (.getfield 178, 3) := by decide +kernel
theorem dX10_told_119 : decode cX10_told 119 = .ok (.ireturn, 1) := by decide +kernel
theorem dX10_told_120 : decode cX10_told 120 = .ok (.aload_n 0, 1) := by decide +kernel
theorem dX10_told_121 : decode cX10_told 121 = .ok (.getfield 26, 3) := by decide +kernel
theorem dX10_told_124 : decode cX10_told 124 = .ok (.invokevirtual 181, 3) := by decide +kernel
theorem dX10_told_127 : decode cX10_told 127 = .ok (.ireturn, 1) := by decide +kernel
theorem dX10_told_128 : decode cX10_told 128 = .ok (.aload_n 0, 1) := by decide +kernel
theorem dX10_told_129 : decode cX10_told 129 = .ok (.getfield 26, 3) := by decide +kernel
theorem dX10_told_132 : decode cX10_told 132 = .ok (.iconst (-1), 1) := by decide +kernel
theorem dX10_told_133 : decode cX10_told 133 = .ok (.iconst (-1), 1) := by decide +kernel
theorem dX10_told_134 : decode cX10_told 134 = .ok (.invokevirtual 185, 3) := by decide +kernel
theorem dX10_told_137 : decode cX10_told 137 = .ok (.ireturn, 1) := by decide +kernel
theorem dX10_told_138 : decode cX10_told 138 = .ok (.aload_n 0, 1) := by decide +kernel
theorem dX10_told_139 : decode cX10_told 139 = .ok (.getfield 10, 3) := by decide +kernel
theorem dX10_told_142 : decode cX10_told 142 = .ok (.getfield 76, 3) := by decide +kernel
theorem dX10_told_145 : decode cX10_told 145 = .ok (.ireturn, 1) := by decide +kernel
theorem dX10_told_146 : decode cX10_told 146 = .ok (.aload_n 0, 1) := by decide +kernel
theorem dX10_told_147 : decode cX10_told 147 = .ok (.getfield 19, 3) := by decide +kernel
theorem dX10_told_150 : decode cX10_told 150 = .ok (.getfield 189, 3) := by decide +kernel
theorem dX10_told_153 : decode cX10_told 153 = .ok (.ireturn, 1) := by decide +kernel
theorem dX10_dealer_0 : decode cX10_dealer 0 = .ok (.aload_n 0, 1) := by decide +kernel
theorem dX10_dealer_1 : decode cX10_dealer 1 = .ok (.iload_n 1, 1) := by decide +kernel
theorem dX10_dealer_2 : decode cX10_dealer 2 = .ok (.invokevirtual 107, 3) := by decide +kernel
theorem dX10_dealer_5 : decode cX10_dealer 5 = .ok (.aload_n 0, 1) := by decide +kernel
theorem dX10_dealer_6 : decode cX10_dealer 6 = .ok (.iload_n 2, 1) := by decide +kernel
theorem dX10_dealer_7 : decode cX10_dealer 7 = .ok (.iconst 0, 1) := by decide +kernel
theorem dX10_dealer_8 : decode cX10_dealer 8 = .ok (.bipush 8, 2) := by decide +kernel
theorem dX10_dealer_10 : decode cX10_dealer 10 = .ok (.invokevirtual 83, 3) := by decide +kernel
theorem dX10_dealer_13 : decode cX10_dealer 13 = .ok (.aload_n 0, 1) := by decide +kernel
theorem dX10_dealer_14 : decode cX10_dealer 14 = .ok (.getfield 26, 3) := by decide +kernel
theorem dX10_dealer_17 : decode cX10_dealer 17 = .ok (.getfield 121, 3) := by decide +kernel
theorem dX10_dealer_20 : decode cX10_dealer 20 = .ok (.iload_n 1, 1) := by decide +kernel
theorem dX10_dealer_21 : decode cX10_dealer 21 = .ok (.aaload, 1) := by decide +kernel
theorem dX10_dealer_22 : decode cX10_dealer 22 = .ok (.astore_n 3, 1) := by decide +kernel
theorem dX10_dealer_23 : decode cX10_dealer 23 = .ok (.iload_n 2, 1) := by decide +kernel
theorem dX10_dealer_24 : decode cX10_dealer 24 = .ok (.tableswitch 103 0 7 #[48, 54, 59, 64, 69, 80, 91, 98], 48) := by decide +kernel
theorem dX10_dealer_72 : decode cX10_dealer 72 = .ok (.aload_n 3, 1) := by decide +kernel
theorem dX10_dealer_73 : decode cX10_dealer 73 = .ok (.getfield 125, 3) := by decide +kernel
theorem dX10_dealer_76 : decode cX10_dealer 76 = .ok (.i2l, 1) := by decide +kernel
theorem dX10_dealer_77 : decode cX10_dealer 77 = .ok (.lreturn, 1) := by decide +kernel
theorem dX10_dealer_78 : decode cX10_dealer 78 = .ok (.aload_n 3, 1) := by decide +kernel
theorem dX10_dealer_79 : decode cX10_dealer 79 = .ok (.getfield 192, 3) := by decide +kernel
theorem dX10_dealer_82 : decode cX10_dealer 82 = .ok (.lreturn, 1) := by decide +kernel
theorem dX10_dealer_83 : decode cX10_dealer 83 = .ok (.aload_n 3, 1) := by decide +kernel
theorem dX10_dealer_84 : decode cX10_dealer 84 = .ok (.getfield 196, 3) := by decide +kernel
theorem dX10_dealer_87 : decode cX10_dealer 87 = .ok (.lreturn, 1) := by decide +kernel
theorem dX10_dealer_88 : decode cX10_dealer 88 = .ok (.aload_n 3, 1) := by decide +kernel
theorem dX10_dealer_89 : decode cX10_dealer 89 = .ok (.getfield 199, 3) := by decide +kernel
theorem dX10_dealer_92 : decode cX10_dealer 92 = .ok (.lreturn, 1) := by decide +kernel
theorem dX10_dealer_93 : decode cX10_dealer 93 = .ok (.aload_n 0, 1) := by decide +kernel
theorem dX10_dealer_94 : decode cX10_dealer 94 = .ok (.getfield 26, 3) := by decide +kernel
theorem dX10_dealer_97 : decode cX10_dealer 97 = .ok (.iload_n 1, 1) := by decide +kernel
theorem dX10_dealer_98 : decode cX10_dealer 98 = .ok (.iconst (-1), 1) := by decide +kernel
theorem dX10_dealer_99 : decode cX10_dealer 99 = .ok (.invokevirtual 185, 3) := by decide +kernel
theorem dX10_dealer_102 : decode cX10_dealer 102 = .ok (.i2l, 1) := by decide +kernel
theorem dX10_dealer_103 : decode cX10_dealer 103 = .ok (.lreturn, 1) := by decide +kernel
theorem dX10_dealer_104 : decode cX10_dealer 104 = .ok (.aload_n 0, 1) := by decide +kernel
theorem dX10_dealer_105 : decode cX10_dealer 105 = .ok (.getfield 26, 3) := by decide +kernel
theorem dX10_dealer_108 : decode cX10_dealer 108 = .ok (.iconst (-1), 1) := by decide +kernel
theorem dX10_dealer_109 : decode cX10_dealer 109 = .ok (.iload_n 1, 1) := by decide +kernel
theorem dX10_dealer_110 : decode cX10_dealer 110 = .ok (.invokevirtual 185, 3) := by decide +kernel
theorem dX10_dealer_113 : decode cX10_dealer 113 = .ok (.i2l, 1) := by decide +kernel
theorem dX10_dealer_114 : decode cX10_dealer 114 = .ok (.lreturn, 1) := by decide +kernel
theorem dX10_dealer_115 : decode cX10_dealer 115 = .ok (.aload_n 0, 1) := by decide +kernel
theorem dX10_dealer_116 : decode cX10_dealer 116 = .ok (.iload_n 1, 1) := by decide +kernel
theorem dX10_dealer_117 : decode cX10_dealer 117 = .ok (.invokevirtual 202, 3) := by decide +kernel
theorem dX10_dealer_120 : decode cX10_dealer 120 = .ok (.i2l, 1) := by decide +kernel
theorem dX10_dealer_121 : decode cX10_dealer 121 = .ok (.lreturn, 1) := by decide +kernel
theorem dX10_dealer_122 : decode cX10_dealer 122 = .ok (.aload_n 3, 1) := by decide +kernel
theorem dX10_dealer_123 : decode cX10_dealer 123 = .ok (.getfield 206, 3) := by decide +kernel
theorem dX10_dealer_126 : decode cX10_dealer 126 = .ok (.lreturn, 1) := by decide +kernel
theorem dX10_dealer_127 : decode cX10_dealer 127 = .ok (.aload_n 3, 1) := by decide +kernel
theorem dX10_dealer_128 : decode cX10_dealer 128 = .ok (.getfield 209, 3) := by decide +kernel
theorem dX10_dealer_131 : decode cX10_dealer 131 = .ok (.i2l, 1) := by decide +kernel
theorem dX10_dealer_132 : decode cX10_dealer 132 = .ok (.lreturn, 1) := by decide +kernel
theorem dX10_of_0 : decode cX10_of 0 = .ok (.aload_n 0, 1) := by decide +kernel
theorem dX10_of_1 : decode cX10_of 1 = .ok (.iload_n 1, 1) := by decide +kernel
theorem dX10_of_2 : decode cX10_of 2 = .ok (.invokevirtual 142, 3) := by decide +kernel
theorem dX10_of_5 : decode cX10_of 5 = .ok (.aload_n 0, 1) := by decide +kernel
theorem dX10_of_6 : decode cX10_of 6 = .ok (.iload_n 2, 1) := by decide +kernel
theorem dX10_of_7 : decode cX10_of 7 = .ok (.iconst 0, 1) := by decide +kernel
theorem dX10_of_8 : decode cX10_of 8 = .ok (.bipush 10, 2) := by decide +kernel
theorem dX10_of_10 : decode cX10_of 10 = .ok (.invokevirtual 83, 3) := by decide +kernel
theorem dX10_of_13 : decode cX10_of 13 = .ok (.aload_n 0, 1) := by decide +kernel
theorem dX10_of_14 : decode cX10_of 14 = .ok (.getfield 26, 3) := by decide +kernel
theorem dX10_of_17 : decode cX10_of 17 = .ok (.getfield 149, 3) := by decide +kernel
theorem dX10_of_20 : decode cX10_of 20 = .ok (.iload_n 1, 1) := by decide +kernel
theorem dX10_of_21 : decode cX10_of 21 = .ok (.aaload, 1) := by decide +kernel
theorem dX10_of_22 : decode cX10_of 22 = .ok (.astore_n 3, 1) := by decide +kernel
theorem dX10_of_23 : decode cX10_of 23 = .ok (.iload_n 2, 1) := by decide +kernel
theorem dX10_of_24 : decode cX10_of 24 = .ok (.tableswitch 107 0 9 #[56, 61, 66, 71, 76, 81, 86, 91, 96, 101], 56) := by decide +kernel
theorem dX10_of_80 : decode cX10_of 80 = .ok (.aload_n 3, 1) := by decide +kernel
theorem dX10_of_81 : decode cX10_of 81 = .ok (.getfield 212, 3) := by decide +kernel
theorem dX10_of_84 : decode cX10_of 84 = .ok (.ireturn, 1) := by decide +kernel
theorem dX10_of_85 : decode cX10_of 85 = .ok (.aload_n 3, 1) := by decide +kernel
theorem dX10_of_86 : decode cX10_of 86 = .ok (.getfield 215, 3) := by decide +kernel
theorem dX10_of_89 : decode cX10_of 89 = .ok (.ireturn, 1) := by decide +kernel
theorem dX10_of_90 : decode cX10_of 90 = .ok (.aload_n 3, 1) := by decide +kernel
theorem dX10_of_91 : decode cX10_of 91 = .ok (.getfield 218, 3) := by decide +kernel
theorem dX10_of_94 : decode cX10_of 94 = .ok (.ireturn, 1) := by decide +kernel
theorem dX10_of_95 : decode cX10_of 95 = .ok (.aload_n 3, 1) := by decide +kernel
theorem dX10_of_96 : decode cX10_of 96 = .ok (.getfield 221, 3) := by decide +kernel
theorem dX10_of_99 : decode cX10_of 99 = .ok (.ireturn, 1) := by decide +kernel
theorem dX10_of_100 : decode cX10_of 100 = .ok (.aload_n 3, 1) := by decide +kernel
theorem dX10_of_101 : decode cX10_of 101 = .ok (.getfield 224, 3) := by decide +kernel
theorem dX10_of_104 : decode cX10_of 104 = .ok (.ireturn, 1) := by decide +kernel
theorem dX10_of_105 : decode cX10_of 105 = .ok (.aload_n 3, 1) := by decide +kernel
theorem dX10_of_106 : decode cX10_of 106 = .ok (.getfield 153, 3) := by decide +kernel
theorem dX10_of_109 : decode cX10_of 109 = .ok (.ireturn, 1) := by decide +kernel
theorem dX10_of_110 : decode cX10_of 110 = .ok (.aload_n 3, 1) := by decide +kernel
theorem dX10_of_111 : decode cX10_of 111 = .ok (.getfield 227, 3) := by decide +kernel
theorem dX10_of_114 : decode cX10_of 114 = .ok (.ireturn, 1) := by decide +kernel
theorem dX10_of_115 : decode cX10_of 115 = .ok (.aload_n 3, 1) := by decide +kernel
theorem dX10_of_116 : decode cX10_of 116 = .ok (.getfield 230, 3) := by decide +kernel
theorem dX10_of_119 : decode cX10_of 119 = .ok (.ireturn, 1) := by decide +kernel
theorem dX10_of_120 : decode cX10_of 120 = .ok (.aload_n 3, 1) := by decide +kernel
theorem dX10_of_121 : decode cX10_of 121 = .ok (.getfield 233, 3) := by decide +kernel
theorem dX10_of_124 : decode cX10_of 124 = .ok (.ireturn, 1) := by decide +kernel
theorem dX10_of_125 : decode cX10_of 125 = .ok (.aload_n 0, 1) := by decide +kernel
theorem dX10_of_126 : decode cX10_of 126 = .ok (.iload_n 1, 1) := by decide +kernel
theorem dX10_of_127 : decode cX10_of 127 = .ok (.invokevirtual 236, 3) := by decide +kernel
theorem dX10_of_130 : decode cX10_of 130 = .ok (.ireturn, 1) := by decide +kernel
theorem dX10_of_131 : decode cX10_of 131 = .ok (.aload_n 0, 1) := by decide +kernel
theorem dX10_of_132 : decode cX10_of 132 = .ok (.getfield 26, 3) := by decide +kernel
theorem dX10_of_135 : decode cX10_of 135 = .ok (.iload_n 1, 1) := by decide +kernel
theorem dX10_of_136 : decode cX10_of 136 = .ok (.invokevirtual 145, 3) := by decide +kernel
theorem dX10_of_139 : decode cX10_of 139 = .ok (.ifCond .eq 7, 3) := by decide +kernel
theorem dX10_of_142 : decode cX10_of 142 = .ok (.iconst 1, 1) := by decide +kernel
theorem dX10_of_143 : decode cX10_of 143 = .ok (.goto 4, 3) := by decide +kernel
theorem dX10_of_146 : decode cX10_of 146 = .ok (.iconst 0, 1) := by decide +kernel
theorem dX10_of_147 : decode cX10_of 147 = .ok (.ireturn, 1) := by decide +kernel
theorem dX10_rule_0 : decode cX10_rule 0 = .ok (.aload_n 0, 1) := by decide +kernel
theorem dX10_rule_1 : decode cX10_rule 1 = .ok (.iload_n 1, 1) := by decide +kernel
theorem dX10_rule_2 : decode cX10_rule 2 = .ok (.invokevirtual 142, 3) := by decide +kernel
theorem dX10_rule_5 : decode cX10_rule 5 = .ok (.aload_n 0, 1) := by decide +kernel
theorem dX10_rule_6 : decode cX10_rule 6 = .ok (.getfield 36, 3) := by decide +kernel
theorem dX10_rule_9 : decode cX10_rule 9 = .ok (.aload_n 0, 1) := by decide +kernel
theorem dX10_rule_10 : decode cX10_rule 10 = .ok (.getfield 26, 3) := by decide +kernel
theorem dX10_rule_13 : decode cX10_rule 13 = .ok (.aload_n 0, 1) := by decide +kernel
theorem dX10_rule_14 : decode cX10_rule 14 = .ok (.getfield 26, 3) := by decide +kernel
theorem dX10_rule_17 : decode cX10_rule 17 = .ok (.getfield 149, 3) := by decide +kernel
theorem dX10_rule_20 : decode cX10_rule 20 = .ok (.iload_n 1, 1) := by decide +kernel
theorem dX10_rule_21 : decode cX10_rule 21 = .ok (.aaload, 1) := by decide +kernel
theorem dX10_rule_22 : decode cX10_rule 22 = .ok (.invokevirtual 239, 3) := by decide +kernel
theorem dX10_rule_25 : decode cX10_rule 25 = .ok (.lreturn, 1) := by decide +kernel
theorem dX10_part_0 : decode cX10_part 0 = .ok (.aload_n 0, 1) := by decide +kernel
