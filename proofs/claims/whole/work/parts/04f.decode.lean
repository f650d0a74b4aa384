theorem dX11_partAt_34 : decode cX11_partAt 34 = .ok (.goto 18, 3) := by decide +kernel
theorem dX11_partAt_37 : decode cX11_partAt 37 = .ok (.iload_n 3, 1) := by decide +kernel
theorem dX11_partAt_38 : decode cX11_partAt 38 = .ok (.ifCond .ne 11, 3) := by decide +kernel
theorem dX11_partAt_41 : decode cX11_partAt 41 = .ok (.aload_n 0, 1) := by decide +kernel
theorem dX11_partAt_42 : decode cX11_partAt 42 = .ok (.getfield 43, 3) := by decide +kernel
theorem dX11_partAt_45 : decode cX11_partAt 45 = .ok (.iload 4, 2) := by decide +kernel
theorem dX11_partAt_47 : decode cX11_partAt 47 = .ok (.iaload, 1) := by decide +kernel
theorem dX11_partAt_48 : decode cX11_partAt 48 = .ok (.ireturn, 1) := by decide +kernel
theorem dX11_partAt_49 : decode cX11_partAt 49 = .ok (.iinc 3 (-1), 3) := by decide +kernel
theorem dX11_partAt_52 : decode cX11_partAt 52 = .ok (.iinc 4 1, 3) := by decide +kernel
theorem dX11_partAt_55 : decode cX11_partAt 55 = .ok (.goto (-50), 3) := by decide +kernel
theorem dX11_partAt_58 : decode cX11_partAt 58 = .ok (.iconst (-1), 1) := by decide +kernel
theorem dX11_partAt_59 : decode cX11_partAt 59 = .ok (.ireturn, 1) := by decide +kernel
theorem dX11_closes_0 : decode cX11_closes 0 = .ok (.aload_n 0, 1) := by decide +kernel
theorem dX11_closes_1 : decode cX11_closes 1 = .ok (.iload_n 1, 1) := by decide +kernel
theorem dX11_closes_2 : decode cX11_closes 2 = .ok (.iconst 5, 1) := by decide +kernel
theorem dX11_closes_3 : decode cX11_closes 3 = .ok (.iload_n 2, 1) := by decide +kernel
theorem dX11_closes_4 : decode cX11_closes 4 = .ok (.ineg, 1) := by decide +kernel
theorem dX11_closes_5 : decode cX11_closes 5 = .ok (.i2l, 1) := by decide +kernel
theorem dX11_closes_6 : decode cX11_closes 6 = .ok (.invokevirtual 322, 3) := by decide +kernel
theorem dX11_closes_9 : decode cX11_closes 9 = .ok (.aload_n 0, 1) := by decide +kernel
theorem dX11_closes_10 : decode cX11_closes 10 = .ok (.iload_n 1, 1) := by decide +kernel
theorem dX11_closes_11 : decode cX11_closes 11 = .ok (.bipush 8, 2) := by decide +kernel
theorem dX11_closes_13 : decode cX11_closes 13 = .ok (.iload_n 2, 1) := by decide +kernel
theorem dX11_closes_14 : decode cX11_closes 14 = .ok (.i2l, 1) := by decide +kernel
theorem dX11_closes_15 : decode cX11_closes 15 = .ok (.invokevirtual 322, 3) := by decide +kernel
theorem dX11_closes_18 : decode cX11_closes 18 = .ok (.lconst 0, 1) := by decide +kernel
theorem dX11_closes_19 : decode cX11_closes 19 = .ok (.aload_n 0, 1) := by decide +kernel
theorem dX11_closes_20 : decode cX11_closes 20 = .ok (.getfield 17, 3) := by decide +kernel
theorem dX11_closes_23 : decode cX11_closes 23 = .ok (.iconst 3, 1) := by decide +kernel
theorem dX11_closes_24 : decode cX11_closes 24 = .ok (.laload, 1) := by decide +kernel
theorem dX11_closes_25 : decode cX11_closes 25 = .ok (.aload_n 0, 1) := by decide +kernel
theorem dX11_closes_26 : decode cX11_closes 26 = .ok (.iload_n 1, 1) := by decide +kernel
theorem dX11_closes_27 : decode cX11_closes 27 = .ok (.iconst 3, 1) := by decide +kernel
theorem dX11_closes_28 : decode cX11_closes 28 = .ok (.invokevirtual 289, 3) := by decide +kernel
theorem dX11_closes_31 : decode cX11_closes 31 = .ok (.i2l, 1) := by decide +kernel
theorem dX11_closes_32 : decode cX11_closes 32 = .ok (.lsub, 1) := by decide +kernel
theorem dX11_closes_33 : decode cX11_closes 33 = .ok (.invokestatic 329, 3) := by decide +kernel
theorem dX11_closes_36 : decode cX11_closes 36 = .ok (.iload_n 2, 1) := by decide +kernel
theorem dX11_closes_37 : decode cX11_closes 37 = .ok (.i2l, 1) := by decide +kernel
theorem dX11_closes_38 : decode cX11_closes 38 = .ok (.lmul, 1) := by decide +kernel
theorem dX11_closes_39 : decode cX11_closes 39 = .ok (.lstore_n 3, 1) := by decide +kernel
theorem dX11_closes_40 : decode cX11_closes 40 = .ok (.aload_n 0, 1) := by decide +kernel
theorem dX11_closes_41 : decode cX11_closes 41 = .ok (.aload_n 0, 1) := by decide +kernel
theorem dX11_closes_42 : decode cX11_closes 42 = .ok (.iload_n 1, 1) := by decide +kernel
theorem dX11_closes_43 : decode cX11_closes 43 = .ok (.iconst 0, 1) := by decide +kernel
theorem dX11_closes_44 : decode cX11_closes 44 = .ok (.invokevirtual 289, 3) := by decide +kernel
theorem dX11_closes_47 : decode cX11_closes 47 = .ok (.aload_n 0, 1) := by decide +kernel
theorem dX11_closes_48 : decode cX11_closes 48 = .ok (.iload_n 1, 1) := by decide +kernel
theorem dX11_closes_49 : decode cX11_closes 49 = .ok (.iconst 1, 1) := by decide +kernel
theorem dX11_closes_50 : decode cX11_closes 50 = .ok (.invokevirtual 289, 3) := by decide +kernel
theorem dX11_closes_53 : decode cX11_closes 53 = .ok (.lload_n 3, 1) := by decide +kernel
theorem dX11_closes_54 : decode cX11_closes 54 = .ok (.invokevirtual 326, 3) := by decide +kernel
theorem dX11_closes_57 : decode cX11_closes 57 = .ok (.aload_n 0, 1) := by decide +kernel
theorem dX11_closes_58 : decode cX11_closes 58 = .ok (.getfield 17, 3) := by decide +kernel
theorem dX11_closes_61 : decode cX11_closes 61 = .ok (.bipush 9, 2) := by decide +kernel
theorem dX11_closes_63 : decode cX11_closes 63 = .ok (.bipush 6, 2) := by decide +kernel
theorem dX11_closes_65 : decode cX11_closes 65 = .ok (.aload_n 0, 1) := by decide +kernel
theorem dX11_closes_66 : decode cX11_closes 66 = .ok (.iload_n 1, 1) := by decide +kernel
theorem dX11_closes_67 : decode cX11_closes 67 = .ok (.iconst 0, 1) := by decide +kernel
theorem dX11_closes_68 : decode cX11_closes 68 = .ok (.invokevirtual 289, 3) := by decide +kernel
theorem dX11_closes_71 : decode cX11_closes 71 = .ok (.imul, 1) := by decide +kernel
theorem dX11_closes_72 : decode cX11_closes 72 = .ok (.iadd, 1) := by decide +kernel
theorem dX11_closes_73 : decode cX11_closes 73 = .ok (.iconst 4, 1) := by decide +kernel
theorem dX11_closes_74 : decode cX11_closes 74 = .ok (.iadd, 1) := by decide +kernel
theorem dX11_closes_75 : decode cX11_closes 75 = .ok (.dup2, 1) := by decide +kernel
theorem dX11_closes_76 : decode cX11_closes 76 = .ok (.laload, 1) := by decide +kernel
theorem dX11_closes_77 : decode cX11_closes 77 = .ok (.lload_n 3, 1) := by decide +kernel
theorem dX11_closes_78 : decode cX11_closes 78 = .ok (.ladd, 1) := by decide +kernel
theorem dX11_closes_79 : decode cX11_closes 79 = .ok (.lastore, 1) := by decide +kernel
theorem dX11_closes_80 : decode cX11_closes 80 = .ok (.aload_n 0, 1) := by decide +kernel
theorem dX11_closes_81 : decode cX11_closes 81 = .ok (.getfield 67, 3) := by decide +kernel
theorem dX11_closes_84 : decode cX11_closes 84 = .ok (.iload_n 1, 1) := by decide +kernel
theorem dX11_closes_85 : decode cX11_closes 85 = .ok (.iconst 1, 1) := by decide +kernel
theorem dX11_closes_86 : decode cX11_closes 86 = .ok (.bastore, 1) := by decide +kernel
theorem dX11_closes_87 : decode cX11_closes 87 = .ok (.iload_n 2, 1) := by decide +kernel
theorem dX11_closes_88 : decode cX11_closes 88 = .ok (.istore 5, 2) := by decide +kernel
theorem dX11_closes_90 : decode cX11_closes 90 = .ok (.iconst 0, 1) := by decide +kernel
theorem dX11_closes_91 : decode cX11_closes 91 = .ok (.istore 6, 2) := by decide +kernel
theorem dX11_closes_93 : decode cX11_closes 93 = .ok (.iload 5, 2) := by decide +kernel
theorem dX11_closes_95 : decode cX11_closes 95 = .ok (.ifCond .le 114, 3) := by decide +kernel
theorem dX11_closes_98 : decode cX11_closes 98 = .ok (.aload_n 0, 1) := by decide +kernel
theorem dX11_closes_99 : decode cX11_closes 99 = .ok (.iload_n 1, 1) := by decide +kernel
theorem dX11_closes_100 : decode cX11_closes 100 = .ok (.iload 6, 2) := by decide +kernel
theorem dX11_closes_102 : decode cX11_closes 102 = .ok (.invokevirtual 332, 3) := by decide +kernel
theorem dX11_closes_105 : decode cX11_closes 105 = .ok (.iconst (-1), 1) := by decide +kernel
theorem dX11_closes_106 : decode cX11_closes 106 = .ok (.if_icmp .eq 103, 3) := by decide +kernel
theorem dX11_closes_109 : decode cX11_closes 109 = .ok (.aload_n 0, 1) := by decide +kernel
theorem dX11_closes_110 : decode cX11_closes 110 = .ok (.iload_n 1, 1) := by decide +kernel
theorem dX11_closes_111 : decode cX11_closes 111 = .ok (.iload 6, 2) := by decide +kernel
theorem dX11_closes_113 : decode cX11_closes 113 = .ok (.invokevirtual 332, 3) := by decide +kernel
theorem dX11_closes_116 : decode cX11_closes 116 = .ok (.istore 7, 2) := by decide +kernel
theorem dX11_closes_118 : decode cX11_closes 118 = .ok (.aload_n 0, 1) := by decide +kernel
theorem dX11_closes_119 : decode cX11_closes 119 = .ok (.getfield 67, 3) := by decide +kernel
theorem dX11_closes_122 : decode cX11_closes 122 = .ok (.iload 7, 2) := by decide +kernel
theorem dX11_closes_124 : decode cX11_closes 124 = .ok (.baload, 1) := by decide +kernel
theorem dX11_closes_125 : decode cX11_closes 125 = .ok (.ifCond .eq 6, 3) := by decide +kernel
theorem dX11_closes_128 : decode cX11_closes 128 = .ok (.goto 75, 3) := by decide +kernel
theorem dX11_closes_131 : decode cX11_closes 131 = .ok (.iload 5, 2) := by decide +kernel
theorem dX11_closes_133 : decode cX11_closes 133 = .ok (.aload_n 0, 1) := by decide +kernel
theorem dX11_closes_134 : decode cX11_closes 134 = .ok (.getfield 55, 3) := by decide +kernel
theorem dX11_closes_137 : decode cX11_closes 137 = .ok (.bipush 24, 2) := by decide +kernel
theorem dX11_closes_139 : decode cX11_closes 139 = .ok (.iload_n 1, 1) := by decide +kernel
theorem dX11_closes_140 : decode cX11_closes 140 = .ok (.imul, 1) := by decide +kernel
theorem dX11_closes_141 : decode cX11_closes 141 = .ok (.iload 7, 2) := by decide +kernel
theorem dX11_closes_143 : decode cX11_closes 143 = .ok (.iadd, 1) := by decide +kernel
theorem dX11_closes_144 : decode cX11_closes 144 = .ok (.iaload, 1) := by decide +kernel
theorem dX11_closes_145 : decode cX11_closes 145 = .ok (.aload_n 0, 1) := by decide +kernel
theorem dX11_closes_146 : decode cX11_closes 146 = .ok (.getfield 58, 3) := by decide +kernel
theorem dX11_closes_149 : decode cX11_closes 149 = .ok (.bipush 24, 2) := by decide +kernel
theorem dX11_closes_151 : decode cX11_closes 151 = .ok (.iload_n 1, 1) := by decide +kernel
theorem dX11_closes_152 : decode cX11_closes 152 = .ok (.imul, 1) := by decide +kernel
theorem dX11_closes_153 : decode cX11_closes 153 = .ok (.iload 7, 2) := by decide +kernel
theorem dX11_closes_155 : decode cX11_closes 155 = .ok (.iadd, 1) := by decide +kernel
theorem dX11_closes_156 : decode cX11_closes 156 = .ok (.iaload, 1) := by decide +kernel
theorem dX11_closes_157 : decode cX11_closes 157 = .ok (.isub, 1) := by decide +kernel
theorem dX11_closes_158 : decode cX11_closes 158 = .ok (.invokestatic 320, 3) := by decide +kernel
theorem dX11_closes_161 : decode cX11_closes 161 = .ok (.istore 8, 2) := by decide +kernel
theorem dX11_closes_163 : decode cX11_closes 163 = .ok (.iload 8, 2) := by decide +kernel
theorem dX11_closes_165 : decode cX11_closes 165 = .ok (.ifCond .ne 6, 3) := by decide +kernel
theorem dX11_closes_168 : decode cX11_closes 168 = .ok (.goto 35, 3) := by decide +kernel
theorem dX11_closes_171 : decode cX11_closes 171 = .ok (.aload_n 0, 1) := by decide +kernel
theorem dX11_closes_172 : decode cX11_closes 172 = .ok (.getfield 58, 3) := by decide +kernel
theorem dX11_closes_175 : decode cX11_closes 175 = .ok (.bipush 24, 2) := by decide +kernel
theorem dX11_closes_177 : decode cX11_closes 177 = .ok (.iload_n 1, 1) := by decide +kernel
theorem dX11_closes_178 : decode cX11_closes 178 = .ok (.imul, 1) := by decide +kernel
theorem dX11_closes_179 : decode cX11_closes 179 = .ok (.iload 7, 2) := by decide +kernel
theorem dX11_closes_181 : decode cX11_closes 181 = .ok (.iadd, 1) := by decide +kernel
theorem dX11_closes_182 : decode cX11_closes 182 = .ok (.dup2, 1) := by decide +kernel
theorem dX11_closes_183 : decode cX11_closes 183 = .ok (.iaload, 1) := by decide +kernel
theorem dX11_closes_184 : decode cX11_closes 184 = .ok (.iload 8, 2) := by decide +kernel
theorem dX11_closes_186 : decode cX11_closes 186 = .ok (.iadd, 1) := by decide +kernel
theorem dX11_closes_187 : decode cX11_closes 187 = .ok (.iastore, 1) := by decide +kernel
theorem dX11_closes_188 : decode cX11_closes 188 = .ok (.iload 5, 2) := by decide +kernel
theorem dX11_closes_190 : decode cX11_closes 190 = .ok (.iload 8, 2) := by decide +kernel
theorem dX11_closes_192 : decode cX11_closes 192 = .ok (.isub, 1) := by decide +kernel
theorem dX11_closes_193 : decode cX11_closes 193 = .ok (.istore 5, 2) := by decide +kernel
theorem dX11_closes_195 : decode cX11_closes 195 = .ok (.aload_n 0, 1) := by decide +kernel
theorem dX11_closes_196 : decode cX11_closes 196 = .ok (.iload 7, 2) := by decide +kernel
theorem dX11_closes_198 : decode cX11_closes 198 = .ok (.iload 8, 2) := by decide +kernel
theorem dX11_closes_200 : decode cX11_closes 200 = .ok (.invokevirtual 335, 3) := by decide +kernel
theorem dX11_closes_203 : decode cX11_closes 203 = .ok (.iinc 6 1, 3) := by decide +kernel
theorem dX11_closes_206 : decode cX11_closes 206 = .ok (.goto (-113), 3) := by decide +kernel
theorem dX11_closes_209 : decode cX11_closes 209 = .ok (.aload_n 0, 1) := by decide +kernel
theorem dX11_closes_210 : decode cX11_closes 210 = .ok (.getfield 67, 3) := by decide +kernel
theorem dX11_closes_213 : decode cX11_closes 213 = .ok (.iload_n 1, 1) := by decide +kernel
theorem dX11_closes_214 : decode cX11_closes 214 = .ok (.iconst 0, 1) := by decide +kernel
theorem dX11_closes_215 : decode cX11_closes 215 = .ok (.bastore, 1) := by decide +kernel
theorem dX11_closes_216 : decode cX11_closes 216 = .ok (.return_, 1) := by decide +kernel
theorem dX11_buysIn_0 : decode cX11_buysIn 0 = .ok (.aload_n 0, 1) := by decide +kernel
theorem dX11_buysIn_1 : decode cX11_buysIn 1 = .ok (.invokevirtual 338, 3) := by decide +kernel
theorem dX11_buysIn_4 : decode cX11_buysIn 4 = .ok (.bipush 9, 2) := by decide +kernel
theorem dX11_buysIn_6 : decode cX11_buysIn 6 = .ok (.bipush 6, 2) := by decide +kernel
theorem dX11_buysIn_8 : decode cX11_buysIn 8 = .ok (.aload_n 0, 1) := by decide +kernel
theorem dX11_buysIn_9 : decode cX11_buysIn 9 = .ok (.iload_n 1, 1) := by decide +kernel
theorem dX11_buysIn_10 : decode cX11_buysIn 10 = .ok (.iconst 1, 1) := by decide +kernel
theorem dX11_buysIn_11 : decode cX11_buysIn 11 = .ok (.invokevirtual 289, 3) := by decide +kernel
theorem dX11_buysIn_14 : decode cX11_buysIn 14 = .ok (.imul, 1) := by decide +kernel
theorem dX11_buysIn_15 : decode cX11_buysIn 15 = .ok (.iadd, 1) := by decide +kernel
theorem dX11_buysIn_16 : decode cX11_buysIn 16 = .ok (.istore_n 3, 1) := by decide +kernel
theorem dX11_buysIn_17 : decode cX11_buysIn 17 = .ok (.aload_n 0, 1) := by decide +kernel
theorem dX11_buysIn_18 : decode cX11_buysIn 18 = .ok (.getfield 17, 3) := by decide +kernel
theorem dX11_buysIn_21 : decode cX11_buysIn 21 = .ok (.iload_n 3, 1) := by decide +kernel
theorem dX11_buysIn_22 : decode cX11_buysIn 22 = .ok (.iconst 0, 1) := by decide +kernel
theorem dX11_buysIn_23 : decode cX11_buysIn 23 = .ok (.iadd, 1) := by decide +kernel
theorem dX11_buysIn_24 : decode cX11_buysIn 24 = .ok (.dup2, 1) := by decide +kernel
theorem dX11_buysIn_25 : decode cX11_buysIn 25 = .ok (.laload, 1) := by decide +kernel
theorem dX11_buysIn_26 : decode cX11_buysIn 26 = .ok (.iload_n 2, 1) := by decide +kernel
theorem dX11_buysIn_27 : decode cX11_buysIn 27 = .ok (.i2l, 1) := by decide +kernel
theorem dX11_buysIn_28 : decode cX11_buysIn 28 = .ok (.ladd, 1) := by decide +kernel
theorem dX11_buysIn_29 : decode cX11_buysIn 29 = .ok (.lastore, 1) := by decide +kernel
theorem dX11_buysIn_30 : decode cX11_buysIn 30 = .ok (.aload_n 0, 1) := by decide +kernel
theorem dX11_buysIn_31 : decode cX11_buysIn 31 = .ok (.getfield 17, 3) := by decide +kernel
theorem dX11_buysIn_34 : decode cX11_buysIn 34 = .ok (.iload_n 3, 1) := by decide +kernel
theorem dX11_buysIn_35 : decode cX11_buysIn 35 = .ok (.iconst 5, 1) := by decide +kernel
theorem dX11_buysIn_36 : decode cX11_buysIn 36 = .ok (.iadd, 1) := by decide +kernel
theorem dX11_buysIn_37 : decode cX11_buysIn 37 = .ok (.dup2, 1) := by decide +kernel
theorem dX11_buysIn_38 : decode cX11_buysIn 38 = .ok (.laload, 1) := by decide +kernel
theorem dX11_buysIn_39 : decode cX11_buysIn 39 = .ok (.iload_n 2, 1) := by decide +kernel
theorem dX11_buysIn_40 : decode cX11_buysIn 40 = .ok (.i2l, 1) := by decide +kernel
theorem dX11_buysIn_41 : decode cX11_buysIn 41 = .ok (.ladd, 1) := by decide +kernel
theorem dX11_buysIn_42 : decode cX11_buysIn 42 = .ok (.lastore, 1) := by decide +kernel
theorem dX11_buysIn_43 : decode cX11_buysIn 43 = .ok (.aload_n 0, 1) := by decide +kernel
theorem dX11_buysIn_44 : decode cX11_buysIn 44 = .ok (.getfield 17, 3) := by decide +kernel
theorem dX11_buysIn_47 : decode cX11_buysIn 47 = .ok (.iload_n 3, 1) := by decide +kernel
theorem dX11_buysIn_48 : decode cX11_buysIn 48 = .ok (.iconst 1, 1) := by decide +kernel
theorem dX11_buysIn_49 : decode cX11_buysIn 49 = .ok (.iadd, 1) := by decide +kernel
theorem dX11_buysIn_50 : decode cX11_buysIn 50 = .ok (.dup2, 1) := by decide +kernel
theorem dX11_buysIn_51 : decode cX11_buysIn 51 = .ok (.laload, 1) := by decide +kernel
theorem dX11_buysIn_52 : decode cX11_buysIn 52 = .ok (.aload_n 0, 1) := by decide +kernel
theorem dX11_buysIn_53 : decode cX11_buysIn 53 = .ok (.getfield 17, 3) := by decide +kernel
theorem dX11_buysIn_56 : decode cX11_buysIn 56 = .ok (.iconst 3, 1) := by decide +kernel
theorem dX11_buysIn_57 : decode cX11_buysIn 57 = .ok (.laload, 1) := by decide +kernel
theorem dX11_buysIn_58 : decode cX11_buysIn 58 = .ok (.iload_n 2, 1) := by decide +kernel
theorem dX11_buysIn_59 : decode cX11_buysIn 59 = .ok (.i2l, 1) := by decide +kernel
theorem dX11_buysIn_60 : decode cX11_buysIn 60 = .ok (.lmul, 1) := by decide +kernel
theorem dX11_buysIn_61 : decode cX11_buysIn 61 = .ok (.lsub, 1) := by decide +kernel
theorem dX11_buysIn_62 : decode cX11_buysIn 62 = .ok (.lastore, 1) := by decide +kernel
theorem dX11_buysIn_63 : decode cX11_buysIn 63 = .ok (.aload_n 0, 1) := by decide +kernel
theorem dX11_buysIn_64 : decode cX11_buysIn 64 = .ok (.getfield 17, 3) := by decide +kernel
theorem dX11_buysIn_67 : decode cX11_buysIn 67 = .ok (.bipush 8, 2) := by decide +kernel
theorem dX11_buysIn_69 : decode cX11_buysIn 69 = .ok (.dup2, 1) := by decide +kernel
theorem dX11_buysIn_70 : decode cX11_buysIn 70 = .ok (.laload, 1) := by decide +kernel
theorem dX11_buysIn_71 : decode cX11_buysIn 71 = .ok (.aload_n 0, 1) := by decide +kernel
theorem dX11_buysIn_72 : decode cX11_buysIn 72 = .ok (.getfield 17, 3) := by decide +kernel
theorem dX11_buysIn_75 : decode cX11_buysIn 75 = .ok (.iconst 3, 1) := by decide +kernel
theorem dX11_buysIn_76 : decode cX11_buysIn 76 = .ok (.laload, 1) := by decide +kernel
theorem dX11_buysIn_77 : decode cX11_buysIn 77 = .ok (.iload_n 2, 1) := by decide +kernel
theorem dX11_buysIn_78 : decode cX11_buysIn 78 = .ok (.i2l, 1) := by decide +kernel
theorem dX11_buysIn_79 : decode cX11_buysIn 79 = .ok (.lmul, 1) := by decide +kernel
theorem dX11_buysIn_80 : decode cX11_buysIn 80 = .ok (.ladd, 1) := by decide +kernel
theorem dX11_buysIn_81 : decode cX11_buysIn 81 = .ok (.lastore, 1) := by decide +kernel
theorem dX11_buysIn_82 : decode cX11_buysIn 82 = .ok (.aload_n 0, 1) := by decide +kernel
theorem dX11_buysIn_83 : decode cX11_buysIn 83 = .ok (.iload_n 1, 1) := by decide +kernel
theorem dX11_buysIn_84 : decode cX11_buysIn 84 = .ok (.iload_n 2, 1) := by decide +kernel
theorem dX11_buysIn_85 : decode cX11_buysIn 85 = .ok (.invokevirtual 335, 3) := by decide +kernel
theorem dX11_buysIn_88 : decode cX11_buysIn 88 = .ok (.return_, 1) := by decide +kernel
theorem dX11_delivers_0 : decode cX11_delivers 0 = .ok (.iconst 0, 1) := by decide +kernel
theorem dX11_delivers_1 : decode cX11_delivers 1 = .ok (.istore_n 1, 1) := by decide +kernel
theorem dX11_delivers_2 : decode cX11_delivers 2 = .ok (.iconst 0, 1) := by decide +kernel
theorem dX11_delivers_3 : decode cX11_delivers 3 = .ok (.istore_n 2, 1) := by decide +kernel
theorem dX11_delivers_4 : decode cX11_delivers 4 = .ok (.iload_n 2, 1) := by decide +kernel
theorem dX11_delivers_5 : decode cX11_delivers 5 = .ok (.aload_n 0, 1) := by decide +kernel
theorem dX11_delivers_6 : decode cX11_delivers 6 = .ok (.invokevirtual 278, 3) := by decide +kernel
theorem dX11_delivers_9 : decode cX11_delivers 9 = .ok (.if_icmp .ge 149, 3) := by decide +kernel
theorem dX11_delivers_12 : decode cX11_delivers 12 = .ok (.aload_n 0, 1) := by decide +kernel
theorem dX11_delivers_13 : decode cX11_delivers 13 = .ok (.getfield 43, 3) := by decide +kernel
theorem dX11_delivers_16 : decode cX11_delivers 16 = .ok (.iload_n 2, 1) := by decide +kernel
theorem dX11_delivers_17 : decode cX11_delivers 17 = .ok (.iaload, 1) := by decide +kernel
theorem dX11_delivers_18 : decode cX11_delivers 18 = .ok (.istore_n 3, 1) := by decide +kernel
theorem dX11_delivers_19 : decode cX11_delivers 19 = .ok (.aload_n 0, 1) := by decide +kernel
theorem dX11_delivers_20 : decode cX11_delivers 20 = .ok (.iload_n 3, 1) := by decide +kernel
theorem dX11_delivers_21 : decode cX11_delivers 21 = .ok (.invokevirtual 305, 3) := by decide +kernel
theorem dX11_delivers_24 : decode cX11_delivers 24 = .ok (.ifCond .ne 6, 3) := by decide +kernel
theorem dX11_delivers_27 : decode cX11_delivers 27 = .ok (.goto 125, 3) := by decide +kernel
theorem dX11_delivers_30 : decode cX11_delivers 30 = .ok (.bipush 9, 2) := by decide +kernel
theorem dX11_delivers_32 : decode cX11_delivers 32 = .ok (.bipush 6, 2) := by decide +kernel
theorem dX11_delivers_34 : decode cX11_delivers 34 = .ok (.aload_n 0, 1) := by decide +kernel
theorem dX11_delivers_35 : decode cX11_delivers 35 = .ok (.iload_n 3, 1) := by decide +kernel
theorem dX11_delivers_36 : decode cX11_delivers 36 = .ok (.iconst 0, 1) := by decide +kernel
theorem dX11_delivers_37 : decode cX11_delivers 37 = .ok (.invokevirtual 289, 3) := by decide +kernel
theorem dX11_delivers_40 : decode cX11_delivers 40 = .ok (.imul, 1) := by decide +kernel
theorem dX11_delivers_41 : decode cX11_delivers 41 = .ok (.iadd, 1) := by decide +kernel
theorem dX11_delivers_42 : decode cX11_delivers 42 = .ok (.istore 4, 2) := by decide +kernel
theorem dX11_delivers_44 : decode cX11_delivers 44 = .ok (.aload_n 0, 1) := by decide +kernel
theorem dX11_delivers_45 : decode cX11_delivers 45 = .ok (.getfield 17, 3) := by decide +kernel
theorem dX11_delivers_48 : decode cX11_delivers 48 = .ok (.iload 4, 2) := by decide +kernel
theorem dX11_delivers_50 : decode cX11_delivers 50 = .ok (.iconst 0, 1) := by decide +kernel
theorem dX11_delivers_51 : decode cX11_delivers 51 = .ok (.iadd, 1) := by decide +kernel
theorem dX11_delivers_52 : decode cX11_delivers 52 = .ok (.laload, 1) := by decide +kernel
theorem dX11_delivers_53 : decode cX11_delivers 53 = .ok (.lstore 5, 2) := by decide +kernel
theorem dX11_delivers_55 : decode cX11_delivers 55 = .ok (.lload 5, 2) := by decide +kernel
theorem dX11_delivers_57 : decode cX11_delivers 57 = .ok (.aload_n 0, 1) := by decide +kernel
theorem dX11_delivers_58 : decode cX11_delivers 58 = .ok (.iload_n 3, 1) := by decide +kernel
theorem dX11_delivers_59 : decode cX11_delivers 59 = .ok (.iconst 5, 1) := by decide +kernel
theorem dX11_delivers_60 : decode cX11_delivers 60 = .ok (.invokevirtual 289, 3) := by decide +kernel
theorem dX11_delivers_63 : decode cX11_delivers 63 = .ok (.i2l, 1) := by decide +kernel
theorem dX11_delivers_64 : decode cX11_delivers 64 = .ok (.lcmp, 1) := by decide +kernel
theorem dX11_delivers_65 : decode cX11_delivers 65 = .ok (.ifCond .lt 13, 3) := by decide +kernel
theorem dX11_delivers_68 : decode cX11_delivers 68 = .ok (.aload_n 0, 1) := by decide +kernel
theorem dX11_delivers_69 : decode cX11_delivers 69 = .ok (.iload_n 3, 1) := by decide +kernel
theorem dX11_delivers_70 : decode cX11_delivers 70 = .ok (.iconst 5, 1) := by decide +kernel
theorem dX11_delivers_71 : decode cX11_delivers 71 = .ok (.invokevirtual 289, 3) := by decide +kernel
theorem dX11_delivers_74 : decode cX11_delivers 74 = .ok (.i2l, 1) := by decide +kernel
theorem dX11_delivers_75 : decode cX11_delivers 75 = .ok (.goto 15, 3) := by decide +kernel
theorem dX11_delivers_78 : decode cX11_delivers 78 = .ok (.lload 5, 2) := by decide +kernel
theorem dX11_delivers_80 : decode cX11_delivers 80 = .ok (.lload 5, 2) := by decide +kernel
theorem dX11_delivers_82 : decode cX11_delivers 82 = .ok (.aload_n 0, 1) := by decide +kernel
theorem dX11_delivers_83 : decode cX11_delivers 83 = .ok (.getfield 17, 3) := by decide +kernel
theorem dX11_delivers_86 : decode cX11_delivers 86 = .ok (.iconst 5, 1) := by decide +kernel
theorem dX11_delivers_87 : decode cX11_delivers 87 = .ok (.laload, 1) := by decide +kernel
theorem dX11_delivers_88 : decode cX11_delivers 88 = .ok (.lrem, 1) := by decide +kernel
theorem dX11_delivers_89 : decode cX11_delivers 89 = .ok (.lsub, 1) := by decide +kernel
theorem dX11_delivers_90 : decode cX11_delivers 90 = .ok (.l2i, 1) := by decide +kernel
theorem dX11_delivers_91 : decode cX11_delivers 91 = .ok (.istore 7, 2) := by decide +kernel
theorem dX11_delivers_93 : decode cX11_delivers 93 = .ok (.iload 7, 2) := by decide +kernel
theorem dX11_delivers_95 : decode cX11_delivers 95 = .ok (.ifCond .ne 6, 3) := by decide +kernel
theorem dX11_delivers_98 : decode cX11_delivers 98 = .ok (.goto 54, 3) := by decide +kernel
theorem dX11_delivers_101 : decode cX11_delivers 101 = .ok (.iconst 1, 1) := by decide +kernel
theorem dX11_delivers_102 : decode cX11_delivers 102 = .ok (.istore_n 1, 1) := by decide +kernel
theorem dX11_delivers_103 : decode cX11_delivers 103 = .ok (.aload_n 0, 1) := by decide +kernel
theorem dX11_delivers_104 : decode cX11_delivers 104 = .ok (.iload_n 3, 1) := by decide +kernel
theorem dX11_delivers_105 : decode cX11_delivers 105 = .ok (.iload 7, 2) := by decide +kernel
theorem dX11_delivers_107 : decode cX11_delivers 107 = .ok (.bipush 7, 2) := by decide +kernel
theorem dX11_delivers_109 : decode cX11_delivers 109 = .ok (.invokevirtual 341, 3) := by decide +kernel
theorem dX11_delivers_112 : decode cX11_delivers 112 = .ok (.aload_n 0, 1) := by decide +kernel
theorem dX11_delivers_113 : decode cX11_delivers 113 = .ok (.getfield 17, 3) := by decide +kernel
theorem dX11_delivers_116 : decode cX11_delivers 116 = .ok (.iload 4, 2) := by decide +kernel
theorem dX11_delivers_118 : decode cX11_delivers 118 = .ok (.iconst 0, 1) := by decide +kernel
theorem dX11_delivers_119 : decode cX11_delivers 119 = .ok (.iadd, 1) := by decide +kernel
theorem dX11_delivers_120 : decode cX11_delivers 120 = .ok (.dup2, 1) := by decide +kernel
theorem dX11_delivers_121 : decode cX11_delivers 121 = .ok (.laload, 1) := by decide +kernel
theorem dX11_delivers_122 : decode cX11_delivers 122 = .ok (.iload 7, 2) := by decide +kernel
theorem dX11_delivers_124 : decode cX11_delivers 124 = .ok (.i2l, 1) := by decide +kernel
theorem dX11_delivers_125 : decode cX11_delivers 125 = .ok (.lsub, 1) := by decide +kernel
theorem dX11_delivers_126 : decode cX11_delivers 126 = .ok (.lastore, 1) := by decide +kernel
theorem dX11_delivers_127 : decode cX11_delivers 127 = .ok (.aload_n 0, 1) := by decide +kernel
theorem dX11_delivers_128 : decode cX11_delivers 128 = .ok (.getfield 17, 3) := by decide +kernel
theorem dX11_delivers_131 : decode cX11_delivers 131 = .ok (.bipush 9, 2) := by decide +kernel
theorem dX11_delivers_133 : decode cX11_delivers 133 = .ok (.bipush 6, 2) := by decide +kernel
theorem dX11_delivers_135 : decode cX11_delivers 135 = .ok (.aload_n 0, 1) := by decide +kernel
theorem dX11_delivers_136 : decode cX11_delivers 136 = .ok (.iload_n 3, 1) := by decide +kernel
theorem dX11_delivers_137 : decode cX11_delivers 137 = .ok (.iconst 1, 1) := by decide +kernel
theorem dX11_delivers_138 : decode cX11_delivers 138 = .ok (.invokevirtual 289, 3) := by decide +kernel
theorem dX11_delivers_141 : decode cX11_delivers 141 = .ok (.imul, 1) := by decide +kernel
theorem dX11_delivers_142 : decode cX11_delivers 142 = .ok (.iadd, 1) := by decide +kernel
theorem dX11_delivers_143 : decode cX11_delivers 143 = .ok (.iconst 0, 1) := by decide +kernel
theorem dX11_delivers_144 : decode cX11_delivers 144 = .ok (.iadd, 1) := by decide +kernel
theorem dX11_delivers_145 : decode cX11_delivers 145 = .ok (.dup2, 1) := by decide +kernel
theorem dX11_delivers_146 : decode cX11_delivers 146 = .ok (.laload, 1) := by decide +kernel
theorem dX11_delivers_147 : decode cX11_delivers 147 = .ok (.iload 7, 2) := by decide +kernel
theorem dX11_delivers_149 : decode cX11_delivers 149 = .ok (.i2l, 1) := by decide +kernel
theorem dX11_delivers_150 : decode cX11_delivers 150 = .ok (.ladd, 1) := by decide +kernel
theorem dX11_delivers_151 : decode cX11_delivers 151 = .ok (.lastore, 1) := by decide +kernel
theorem dX11_delivers_152 : decode cX11_delivers 152 = .ok (.iinc 2 1, 3) := by decide +kernel
theorem dX11_delivers_155 : decode cX11_delivers 155 = .ok (.goto (-151), 3) := by decide +kernel
theorem dX11_delivers_158 : decode cX11_delivers 158 = .ok (.iload_n 1, 1) := by decide +kernel
theorem dX11_delivers_159 : decode cX11_delivers 159 = .ok (.ireturn, 1) := by decide +kernel
theorem dX11_sellsAsked_0 : decode cX11_sellsAsked 0 = .ok (.iconst 0, 1) := by decide +kernel
theorem dX11_sellsAsked_1 : decode cX11_sellsAsked 1 = .ok (.istore_n 2, 1) := by decide +kernel
theorem dX11_sellsAsked_2 : decode cX11_sellsAsked 2 = .ok (.iload_n 2, 1) := by decide +kernel
theorem dX11_sellsAsked_3 : decode cX11_sellsAsked 3 = .ok (.aload_n 0, 1) := by decide +kernel
theorem dX11_sellsAsked_4 : decode cX11_sellsAsked 4 = .ok (.invokevirtual 278, 3) := by decide +kernel
theorem dX11_sellsAsked_7 : decode cX11_sellsAsked 7 = .ok (.if_icmp .ge 29, 3) := by decide +kernel
theorem dX11_sellsAsked_10 : decode cX11_sellsAsked 10 = .ok (.aload_n 0, 1) := by decide +kernel
theorem dX11_sellsAsked_11 : decode cX11_sellsAsked 11 = .ok (.iload_n 2, 1) := by decide +kernel
theorem dX11_sellsAsked_12 : decode cX11_sellsAsked 12 = .ok (.invokevirtual 305, 3) := by decide +kernel
theorem dX11_sellsAsked_15 : decode cX11_sellsAsked 15 = .ok (.ifCond .eq 15, 3) := by decide +kernel
theorem dX11_sellsAsked_18 : decode cX11_sellsAsked 18 = .ok (.aload_n 0, 1) := by decide +kernel
theorem dX11_sellsAsked_19 : decode cX11_sellsAsked 19 = .ok (.iload_n 2, 1) := by decide +kernel
theorem dX11_sellsAsked_20 : decode cX11_sellsAsked 20 = .ok (.iconst 0, 1) := by decide +kernel
theorem dX11_sellsAsked_21 : decode cX11_sellsAsked 21 = .ok (.invokevirtual 289, 3) := by decide +kernel
theorem dX11_sellsAsked_24 : decode cX11_sellsAsked 24 = .ok (.iload_n 1, 1) := by decide +kernel
theorem dX11_sellsAsked_25 : decode cX11_sellsAsked 25 = .ok (.if_icmp .ne 5, 3) := by decide +kernel
theorem dX11_sellsAsked_28 : decode cX11_sellsAsked 28 = .ok (.iconst 1, 1) := by decide +kernel
theorem dX11_sellsAsked_29 : decode cX11_sellsAsked 29 = .ok (.ireturn, 1) := by decide +kernel
theorem dX11_sellsAsked_30 : decode cX11_sellsAsked 30 = .ok (.iinc 2 1, 3) := by decide +kernel
theorem dX11_sellsAsked_33 : decode cX11_sellsAsked 33 = .ok (.goto (-31), 3) := by decide +kernel
theorem dX11_sellsAsked_36 : decode cX11_sellsAsked 36 = .ok (.iconst 0, 1) := by decide +kernel
theorem dX11_sellsAsked_37 : decode cX11_sellsAsked 37 = .ok (.ireturn, 1) := by decide +kernel
theorem dX11_goes_0 : decode cX11_goes 0 = .ok (.aload_n 0, 1) := by decide +kernel
theorem dX11_goes_1 : decode cX11_goes 1 = .ok (.invokevirtual 345, 3) := by decide +kernel
theorem dX11_goes_4 : decode cX11_goes 4 = .ok (.aload_n 0, 1) := by decide +kernel
theorem dX11_goes_5 : decode cX11_goes 5 = .ok (.invokevirtual 348, 3) := by decide +kernel
theorem dX11_goes_8 : decode cX11_goes 8 = .ok (.ifCond .eq 40, 3) := by decide +kernel
theorem dX11_goes_11 : decode cX11_goes 11 = .ok (.aload_n 0, 1) := by decide +kernel
theorem dX11_goes_12 : decode cX11_goes 12 = .ok (.invokevirtual 351, 3) := by decide +kernel
theorem dX11_goes_15 : decode cX11_goes 15 = .ok (.istore_n 1, 1) := by decide +kernel
theorem dX11_goes_16 : decode cX11_goes 16 = .ok (.iconst 0, 1) := by decide +kernel
theorem dX11_goes_17 : decode cX11_goes 17 = .ok (.istore_n 2, 1) := by decide +kernel
theorem dX11_goes_18 : decode cX11_goes 18 = .ok (.iload_n 2, 1) := by decide +kernel
theorem dX11_goes_19 : decode cX11_goes 19 = .ok (.aload_n 0, 1) := by decide +kernel
theorem dX11_goes_20 : decode cX11_goes 20 = .ok (.getfield 308, 3) := by decide +kernel
theorem dX11_goes_23 : decode cX11_goes 23 = .ok (.if_icmp .ge 22, 3) := by decide +kernel
theorem dX11_goes_26 : decode cX11_goes 26 = .ok (.aload_n 0, 1) := by decide +kernel
theorem dX11_goes_27 : decode cX11_goes 27 = .ok (.aload_n 0, 1) := by decide +kernel
theorem dX11_goes_28 : decode cX11_goes 28 = .ok (.getfield 49, 3) := by decide +kernel
theorem dX11_goes_31 : decode cX11_goes 31 = .ok (.iload_n 2, 1) := by decide +kernel
theorem dX11_goes_32 : decode cX11_goes 32 = .ok (.iaload, 1) := by decide +kernel
theorem dX11_goes_33 : decode cX11_goes 33 = .ok (.iload_n 1, 1) := by decide +kernel
theorem dX11_goes_34 : decode cX11_goes 34 = .ok (.bipush 6, 2) := by decide +kernel
theorem dX11_goes_36 : decode cX11_goes 36 = .ok (.invokevirtual 341, 3) := by decide +kernel
theorem dX11_goes_39 : decode cX11_goes 39 = .ok (.iinc 2 1, 3) := by decide +kernel
theorem dX11_goes_42 : decode cX11_goes 42 = .ok (.goto (-24), 3) := by decide +kernel
theorem dX11_goes_45 : decode cX11_goes 45 = .ok (.goto (-41), 3) := by decide +kernel
theorem dX11_goes_48 : decode cX11_goes 48 = .ok (.iconst 1, 1) := by decide +kernel
theorem dX11_goes_49 : decode cX11_goes 49 = .ok (.istore_n 1, 1) := by decide +kernel
theorem dX11_goes_50 : decode cX11_goes 50 = .ok (.iload_n 1, 1) := by decide +kernel
theorem dX11_goes_51 : decode cX11_goes 51 = .ok (.ifCond .eq 11, 3) := by decide +kernel
theorem dX11_goes_54 : decode cX11_goes 54 = .ok (.aload_n 0, 1) := by decide +kernel
theorem dX11_goes_55 : decode cX11_goes 55 = .ok (.invokevirtual 354, 3) := by decide +kernel
theorem dX11_goes_58 : decode cX11_goes 58 = .ok (.istore_n 1, 1) := by decide +kernel
theorem dX11_goes_59 : decode cX11_goes 59 = .ok (.goto (-9), 3) := by decide +kernel
theorem dX11_goes_62 : decode cX11_goes 62 = .ok (.aload_n 0, 1) := by decide +kernel
theorem dX11_goes_63 : decode cX11_goes 63 = .ok (.iconst 0, 1) := by decide +kernel
theorem dX11_goes_64 : decode cX11_goes 64 = .ok (.putfield 357, 3) := by decide +kernel
theorem dX11_goes_67 : decode cX11_goes 67 = .ok (.aload_n 0, 1) := by decide +kernel
theorem dX11_goes_68 : decode cX11_goes 68 = .ok (.iconst 0, 1) := by decide +kernel
theorem dX11_goes_69 : decode cX11_goes 69 = .ok (.putfield 360, 3) := by decide +kernel
theorem dX11_goes_72 : decode cX11_goes 72 = .ok (.aload_n 0, 1) := by decide +kernel
theorem dX11_goes_73 : decode cX11_goes 73 = .ok (.lconst 0, 1) := by decide +kernel
theorem dX11_goes_74 : decode cX11_goes 74 = .ok (.putfield 363, 3) := by decide +kernel
theorem dX11_goes_77 : decode cX11_goes 77 = .ok (.iconst 0, 1) := by decide +kernel
theorem dX11_goes_78 : decode cX11_goes 78 = .ok (.istore_n 2, 1) := by decide +kernel
theorem dX11_goes_79 : decode cX11_goes 79 = .ok (.iload_n 2, 1) := by decide +kernel
theorem dX11_goes_80 : decode cX11_goes 80 = .ok (.aload_n 0, 1) := by decide +kernel
theorem dX11_goes_81 : decode cX11_goes 81 = .ok (.invokevirtual 278, 3) := by decide +kernel
theorem dX11_goes_84 : decode cX11_goes 84 = .ok (.if_icmp .ge 145, 3) := by decide +kernel
theorem dX11_goes_87 : decode cX11_goes 87 = .ok (.aload_n 0, 1) := by decide +kernel
theorem dX11_goes_88 : decode cX11_goes 88 = .ok (.iload_n 2, 1) := by decide +kernel
theorem dX11_goes_89 : decode cX11_goes 89 = .ok (.invokevirtual 305, 3) := by decide +kernel
theorem dX11_goes_92 : decode cX11_goes 92 = .ok (.ifCond .ne 6, 3) := by decide +kernel
theorem dX11_goes_95 : decode cX11_goes 95 = .ok (.goto 128, 3) := by decide +kernel
theorem dX11_goes_98 : decode cX11_goes 98 = .ok (.aload_n 0, 1) := by decide +kernel
theorem dX11_goes_99 : decode cX11_goes 99 = .ok (.dup, 1) := by decide +kernel
theorem dX11_goes_100 : decode cX11_goes 100 = .ok (.getfield 357, 3) := by decide +kernel
theorem dX11_goes_103 : decode cX11_goes 103 = .ok (.iconst 1, 1) := by decide +kernel
theorem dX11_goes_104 : decode cX11_goes 104 = .ok (.iadd, 1) := by decide +kernel
theorem dX11_goes_105 : decode cX11_goes 105 = .ok (.putfield 357, 3) := by decide +kernel
theorem dX11_goes_108 : decode cX11_goes 108 = .ok (.aload_n 0, 1) := by decide +kernel
theorem dX11_goes_109 : decode cX11_goes 109 = .ok (.dup, 1) := by decide +kernel
theorem dX11_goes_110 : decode cX11_goes 110 = .ok (.getfield 360, 3) := by decide +kernel
theorem dX11_goes_113 : decode cX11_goes 113 = .ok (.aload_n 0, 1) := by decide +kernel
theorem dX11_goes_114 : decode cX11_goes 114 = .ok (.iload_n 2, 1) := by decide +kernel
theorem dX11_goes_115 : decode cX11_goes 115 = .ok (.iconst 5, 1) := by decide +kernel
theorem dX11_goes_116 : decode cX11_goes 116 = .ok (.invokevirtual 289, 3) := by decide +kernel
theorem dX11_goes_119 : decode cX11_goes 119 = .ok (.iadd, 1) := by decide +kernel
theorem dX11_goes_120 : decode cX11_goes 120 = .ok (.putfield 360, 3) := by decide +kernel
theorem dX11_goes_123 : decode cX11_goes 123 = .ok (.aload_n 0, 1) := by decide +kernel
theorem dX11_goes_124 : decode cX11_goes 124 = .ok (.iload_n 2, 1) := by decide +kernel
theorem dX11_goes_125 : decode cX11_goes 125 = .ok (.iconst 5, 1) := by decide +kernel
theorem dX11_goes_126 : decode cX11_goes 126 = .ok (.invokevirtual 289, 3) := by decide +kernel
theorem dX11_goes_129 : decode cX11_goes 129 = .ok (.i2l, 1) := by decide +kernel
theorem dX11_goes_130 : decode cX11_goes 130 = .ok (.aload_n 0, 1) := by decide +kernel
theorem dX11_goes_131 : decode cX11_goes 131 = .ok (.iload_n 2, 1) := by decide +kernel
theorem dX11_goes_132 : decode cX11_goes 132 = .ok (.iconst 3, 1) := by decide +kernel
theorem dX11_goes_133 : decode cX11_goes 133 = .ok (.invokevirtual 289, 3) := by decide +kernel
theorem dX11_goes_136 : decode cX11_goes 136 = .ok (.i2l, 1) := by decide +kernel
theorem dX11_goes_137 : decode cX11_goes 137 = .ok (.lmul, 1) := by decide +kernel
theorem dX11_goes_138 : decode cX11_goes 138 = .ok (.aload_n 0, 1) := by decide +kernel
theorem dX11_goes_139 : decode cX11_goes 139 = .ok (.getfield 17, 3) := by decide +kernel
theorem dX11_goes_142 : decode cX11_goes 142 = .ok (.iconst 4, 1) := by decide +kernel
theorem dX11_goes_143 : decode cX11_goes 143 = .ok (.laload, 1) := by decide +kernel
theorem dX11_goes_144 : decode cX11_goes 144 = .ok (.lmul, 1) := by decide +kernel
theorem dX11_goes_145 : decode cX11_goes 145 = .ok (.ldc2_w 287, 3) := by decide +kernel
theorem dX11_goes_148 : decode cX11_goes 148 = .ok (.ldiv, 1) := by decide +kernel
theorem dX11_goes_149 : decode cX11_goes 149 = .ok (.lstore_n 3, 1) := by decide +kernel
theorem dX11_goes_150 : decode cX11_goes 150 = .ok (.aload_n 0, 1) := by decide +kernel
theorem dX11_goes_151 : decode cX11_goes 151 = .ok (.dup, 1) := by decide +kernel
theorem dX11_goes_152 : decode cX11_goes 152 = .ok (.getfield 363, 3) := by decide +kernel
theorem dX11_goes_155 : decode cX11_goes 155 = .ok (.lload_n 3, 1) := by decide +kernel
theorem dX11_goes_156 : decode cX11_goes 156 = .ok (.ladd, 1) := by decide +kernel
theorem dX11_goes_157 : decode cX11_goes 157 = .ok (.putfield 363, 3) := by decide +kernel
theorem dX11_goes_160 : decode cX11_goes 160 = .ok (.aload_n 0, 1) := by decide +kernel
theorem dX11_goes_161 : decode cX11_goes 161 = .ok (.aload_n 0, 1) := by decide +kernel
theorem dX11_goes_162 : decode cX11_goes 162 = .ok (.iload_n 2, 1) := by decide +kernel
theorem dX11_goes_163 : decode cX11_goes 163 = .ok (.iconst 0, 1) := by decide +kernel
theorem dX11_goes_164 : decode cX11_goes 164 = .ok (.invokevirtual 289, 3) := by decide +kernel
theorem dX11_goes_167 : decode cX11_goes 167 = .ok (.aload_n 0, 1) := by decide +kernel
theorem dX11_goes_168 : decode cX11_goes 168 = .ok (.iload_n 2, 1) := by decide +kernel
theorem dX11_goes_169 : decode cX11_goes 169 = .ok (.iconst 1, 1) := by decide +kernel
theorem dX11_goes_170 : decode cX11_goes 170 = .ok (.invokevirtual 289, 3) := by decide +kernel
theorem dX11_goes_173 : decode cX11_goes 173 = .ok (.lload_n 3, 1) := by decide +kernel
theorem dX11_goes_174 : decode cX11_goes 174 = .ok (.invokevirtual 326, 3) := by decide +kernel
theorem dX11_goes_177 : decode cX11_goes 177 = .ok (.aload_n 0, 1) := by decide +kernel
theorem dX11_goes_178 : decode cX11_goes 178 = .ok (.getfield 17, 3) := by decide +kernel
theorem dX11_goes_181 : decode cX11_goes 181 = .ok (.bipush 9, 2) := by decide +kernel
theorem dX11_goes_183 : decode cX11_goes 183 = .ok (.bipush 6, 2) := by decide +kernel
theorem dX11_goes_185 : decode cX11_goes 185 = .ok (.aload_n 0, 1) := by decide +kernel
theorem dX11_goes_186 : decode cX11_goes 186 = .ok (.iload_n 2, 1) := by decide +kernel
theorem dX11_goes_187 : decode cX11_goes 187 = .ok (.iconst 0, 1) := by decide +kernel
theorem dX11_goes_188 : decode cX11_goes 188 = .ok (.invokevirtual 289, 3) := by decide +kernel
theorem dX11_goes_191 : decode cX11_goes 191 = .ok (.imul, 1) := by decide +kernel
theorem dX11_goes_192 : decode cX11_goes 192 = .ok (.iadd, 1) := by decide +kernel
theorem dX11_goes_193 : decode cX11_goes 193 = .ok (.iconst 2, 1) := by decide +kernel
theorem dX11_goes_194 : decode cX11_goes 194 = .ok (.iadd, 1) := by decide +kernel
theorem dX11_goes_195 : decode cX11_goes 195 = .ok (.dup2, 1) := by decide +kernel
theorem dX11_goes_196 : decode cX11_goes 196 = .ok (.laload, 1) := by decide +kernel
theorem dX11_goes_197 : decode cX11_goes 197 = .ok (.lload_n 3, 1) := by decide +kernel
theorem dX11_goes_198 : decode cX11_goes 198 = .ok (.ladd, 1) := by decide +kernel
theorem dX11_goes_199 : decode cX11_goes 199 = .ok (.lastore, 1) := by decide +kernel
theorem dX11_goes_200 : decode cX11_goes 200 = .ok (.aload_n 0, 1) := by decide +kernel
theorem dX11_goes_201 : decode cX11_goes 201 = .ok (.getfield 17, 3) := by decide +kernel
theorem dX11_goes_204 : decode cX11_goes 204 = .ok (.bipush 9, 2) := by decide +kernel
theorem dX11_goes_206 : decode cX11_goes 206 = .ok (.bipush 6, 2) := by decide +kernel
theorem dX11_goes_208 : decode cX11_goes 208 = .ok (.aload_n 0, 1) := by decide +kernel
theorem dX11_goes_209 : decode cX11_goes 209 = .ok (.iload_n 2, 1) := by decide +kernel
theorem dX11_goes_210 : decode cX11_goes 210 = .ok (.iconst 1, 1) := by decide +kernel
theorem dX11_goes_211 : decode cX11_goes 211 = .ok (.invokevirtual 289, 3) := by decide +kernel
theorem dX11_goes_214 : decode cX11_goes 214 = .ok (.imul, 1) := by decide +kernel
theorem dX11_goes_215 : decode cX11_goes 215 = .ok (.iadd, 1) := by decide +kernel
theorem dX11_goes_216 : decode cX11_goes 216 = .ok (.iconst 3, 1) := by decide +kernel
theorem dX11_goes_217 : decode cX11_goes 217 = .ok (.iadd, 1) := by decide +kernel
theorem dX11_goes_218 : decode cX11_goes 218 = .ok (.dup2, 1) := by decide +kernel
theorem dX11_goes_219 : decode cX11_goes 219 = .ok (.laload, 1) := by decide +kernel
theorem dX11_goes_220 : decode cX11_goes 220 = .ok (.lload_n 3, 1) := by decide +kernel
theorem dX11_goes_221 : decode cX11_goes 221 = .ok (.ladd, 1) := by decide +kernel
theorem dX11_goes_222 : decode cX11_goes 222 = .ok (.lastore, 1) := by decide +kernel
theorem dX11_goes_223 : decode cX11_goes 223 = .ok (.iinc 2 1, 3) := by decide +kernel
theorem dX11_goes_226 : decode cX11_goes 226 = .ok (.goto (-147), 3) := by decide +kernel
theorem dX11_goes_229 : decode cX11_goes 229 = .ok (.iconst 0, 1) := by decide +kernel
theorem dX11_goes_230 : decode cX11_goes 230 = .ok (.istore_n 2, 1) := by decide +kernel
theorem dX11_goes_231 : decode cX11_goes 231 = .ok (.iload_n 2, 1) := by decide +kernel
theorem dX11_goes_232 : decode cX11_goes 232 = .ok (.aload_n 0, 1) := by decide +kernel
theorem dX11_goes_233 : decode cX11_goes 233 = .ok (.invokevirtual 278, 3) := by decide +kernel
theorem dX11_goes_236 : decode cX11_goes 236 = .ok (.if_icmp .ge 73, 3) := by decide +kernel
theorem dX11_goes_239 : decode cX11_goes 239 = .ok (.aload_n 0, 1) := by decide +kernel
theorem dX11_goes_240 : decode cX11_goes 240 = .ok (.getfield 43, 3) := by decide +kernel
theorem dX11_goes_243 : decode cX11_goes 243 = .ok (.iload_n 2, 1) := by decide +kernel
theorem dX11_goes_244 : decode cX11_goes 244 = .ok (.iaload, 1) := by decide +kernel
theorem dX11_goes_245 : decode cX11_goes 245 = .ok (.istore_n 3, 1) := by decide +kernel
theorem dX11_goes_246 : decode cX11_goes 246 = .ok (.aload_n 0, 1) := by decide +kernel
theorem dX11_goes_247 : decode cX11_goes 247 = .ok (.iload_n 3, 1) := by decide +kernel
theorem dX11_goes_248 : decode cX11_goes 248 = .ok (.invokevirtual 305, 3) := by decide +kernel
theorem dX11_goes_251 : decode cX11_goes 251 = .ok (.ifCond .eq 52, 3) := by decide +kernel
theorem dX11_goes_254 : decode cX11_goes 254 = .ok (.aload_n 0, 1) := by decide +kernel
theorem dX11_goes_255 : decode cX11_goes 255 = .ok (.getfield 17, 3) := by decide +kernel
theorem dX11_goes_258 : decode cX11_goes 258 = .ok (.iconst 2, 1) := by decide +kernel
theorem dX11_goes_259 : decode cX11_goes 259 = .ok (.laload, 1) := by decide +kernel
theorem dX11_goes_260 : decode cX11_goes 260 = .ok (.aload_n 0, 1) := by decide +kernel
theorem dX11_goes_261 : decode cX11_goes 261 = .ok (.iload_n 3, 1) := by decide +kernel
theorem dX11_goes_262 : decode cX11_goes 262 = .ok (.iconst 4, 1) := by decide +kernel
theorem dX11_goes_263 : decode cX11_goes 263 = .ok (.invokevirtual 289, 3) := by decide +kernel
theorem dX11_goes_266 : decode cX11_goes 266 = .ok (.i2l, 1) := by decide +kernel
theorem dX11_goes_267 : decode cX11_goes 267 = .ok (.lsub, 1) := by decide +kernel
theorem dX11_goes_268 : decode cX11_goes 268 = .ok (.aload_n 0, 1) := by decide +kernel
theorem dX11_goes_269 : decode cX11_goes 269 = .ok (.getfield 17, 3) := by decide +kernel
theorem dX11_goes_272 : decode cX11_goes 272 = .ok (.bipush 6, 2) := by decide +kernel
theorem dX11_goes_274 : decode cX11_goes 274 = .ok (.laload, 1) := by decide +kernel
theorem dX11_goes_275 : decode cX11_goes 275 = .ok (.lcmp, 1) := by decide +kernel
theorem dX11_goes_276 : decode cX11_goes 276 = .ok (.ifCond .lt 27, 3) := by decide +kernel
theorem dX11_goes_279 : decode cX11_goes 279 = .ok (.aload_n 0, 1) := by decide +kernel
theorem dX11_goes_280 : decode cX11_goes 280 = .ok (.aload_n 0, 1) := by decide +kernel
theorem dX11_goes_281 : decode cX11_goes 281 = .ok (.iload_n 3, 1) := by decide +kernel
theorem dX11_goes_282 : decode cX11_goes 282 = .ok (.iconst 1, 1) := by decide +kernel
theorem dX11_goes_283 : decode cX11_goes 283 = .ok (.invokevirtual 289, 3) := by decide +kernel
theorem dX11_goes_286 : decode cX11_goes 286 = .ok (.invokevirtual 367, 3) := by decide +kernel
theorem dX11_goes_289 : decode cX11_goes 289 = .ok (.ifCond .ne 14, 3) := by decide +kernel
theorem dX11_goes_292 : decode cX11_goes 292 = .ok (.aload_n 0, 1) := by decide +kernel
theorem dX11_goes_293 : decode cX11_goes 293 = .ok (.iload_n 3, 1) := by decide +kernel
theorem dX11_goes_294 : decode cX11_goes 294 = .ok (.aload_n 0, 1) := by decide +kernel
theorem dX11_goes_295 : decode cX11_goes 295 = .ok (.iload_n 3, 1) := by decide +kernel
theorem dX11_goes_296 : decode cX11_goes 296 = .ok (.iconst 5, 1) := by decide +kernel
theorem dX11_goes_297 : decode cX11_goes 297 = .ok (.invokevirtual 289, 3) := by decide +kernel
theorem dX11_goes_300 : decode cX11_goes 300 = .ok (.invokevirtual 370, 3) := by decide +kernel
theorem dX11_goes_303 : decode cX11_goes 303 = .ok (.iinc 2 1, 3) := by decide +kernel
theorem dX11_goes_306 : decode cX11_goes 306 = .ok (.goto (-75), 3) := by decide +kernel
theorem dX11_goes_309 : decode cX11_goes 309 = .ok (.aload_n 0, 1) := by decide +kernel
theorem dX11_goes_310 : decode cX11_goes 310 = .ok (.getfield 17, 3) := by decide +kernel
theorem dX11_goes_313 : decode cX11_goes 313 = .ok (.iconst 2, 1) := by decide +kernel
theorem dX11_goes_314 : decode cX11_goes 314 = .ok (.dup2, 1) := by decide +kernel
theorem dX11_goes_315 : decode cX11_goes 315 = .ok (.laload, 1) := by decide +kernel
theorem dX11_goes_316 : decode cX11_goes 316 = .ok (.lconst 1, 1) := by decide +kernel
theorem dX11_goes_317 : decode cX11_goes 317 = .ok (.ladd, 1) := by decide +kernel
theorem dX11_goes_318 : decode cX11_goes 318 = .ok (.lastore, 1) := by decide +kernel
theorem dX11_goes_319 : decode cX11_goes 319 = .ok (.return_, 1) := by decide +kernel
theorem dX11_night_0 : decode cX11_night 0 = .ok (.aload_n 0, 1) := by decide +kernel
theorem dX11_night_1 : decode cX11_night 1 = .ok (.iconst 0, 1) := by decide +kernel
theorem dX11_night_2 : decode cX11_night 2 = .ok (.putfield 1, 3) := by decide +kernel
theorem dX11_night_5 : decode cX11_night 5 = .ok (.aload_n 0, 1) := by decide +kernel
theorem dX11_night_6 : decode cX11_night 6 = .ok (.aload_n 0, 1) := by decide +kernel
theorem dX11_night_7 : decode cX11_night 7 = .ok (.getfield 17, 3) := by decide +kernel
theorem dX11_night_10 : decode cX11_night 10 = .ok (.iconst 2, 1) := by decide +kernel
theorem dX11_night_11 : decode cX11_night 11 = .ok (.laload, 1) := by decide +kernel
theorem dX11_night_12 : decode cX11_night 12 = .ok (.ldc2_w 373, 3) := by decide +kernel
theorem dX11_night_15 : decode cX11_night 15 = .ok (.lcmp, 1) := by decide +kernel
theorem dX11_night_16 : decode cX11_night 16 = .ok (.ifCond .ge 7, 3) := by decide +kernel
theorem dX11_night_19 : decode cX11_night 19 = .ok (.iconst 1, 1) := by decide +kernel
theorem dX11_night_20 : decode cX11_night 20 = .ok (.goto 4, 3) := by decide +kernel
theorem dX11_night_23 : decode cX11_night 23 = .ok (.iconst 0, 1) := by decide +kernel
theorem dX11_night_24 : decode cX11_night 24 = .ok (.iconst 1, 1) := by decide +kernel
theorem dX11_night_25 : decode cX11_night 25 = .ok (.iconst 2, 1) := by decide +kernel
theorem dX11_night_26 : decode cX11_night 26 = .ok (.invokevirtual 264, 3) := by decide +kernel
theorem dX11_night_29 : decode cX11_night 29 = .ok (.ifCond .ne 5, 3) := by decide +kernel
theorem dX11_night_32 : decode cX11_night 32 = .ok (.iconst 0, 1) := by decide +kernel
theorem dX11_night_33 : decode cX11_night 33 = .ok (.ireturn, 1) := by decide +kernel
theorem dX11_night_34 : decode cX11_night 34 = .ok (.aload_n 0, 1) := by decide +kernel
theorem dX11_night_35 : decode cX11_night 35 = .ok (.invokevirtual 275, 3) := by decide +kernel
theorem dX11_night_38 : decode cX11_night 38 = .ok (.aload_n 0, 1) := by decide +kernel
theorem dX11_night_39 : decode cX11_night 39 = .ok (.invokevirtual 375, 3) := by decide +kernel
theorem dX11_night_42 : decode cX11_night 42 = .ok (.aload_n 0, 1) := by decide +kernel
theorem dX11_night_43 : decode cX11_night 43 = .ok (.getfield 357, 3) := by decide +kernel
theorem dX11_night_46 : decode cX11_night 46 = .ok (.ireturn, 1) := by decide +kernel
theorem dX11_buyin_0 : decode cX11_buyin 0 = .ok (.aload_n 0, 1) := by decide +kernel
theorem dX11_buyin_1 : decode cX11_buyin 1 = .ok (.iconst 0, 1) := by decide +kernel
theorem dX11_buyin_2 : decode cX11_buyin 2 = .ok (.putfield 1, 3) := by decide +kernel
theorem dX11_buyin_5 : decode cX11_buyin 5 = .ok (.aload_n 0, 1) := by decide +kernel
theorem dX11_buyin_6 : decode cX11_buyin 6 = .ok (.aload_n 0, 1) := by decide +kernel
theorem dX11_buyin_7 : decode cX11_buyin 7 = .ok (.iload_n 1, 1) := by decide +kernel
theorem dX11_buyin_8 : decode cX11_buyin 8 = .ok (.invokevirtual 378, 3) := by decide +kernel
theorem dX11_buyin_11 : decode cX11_buyin 11 = .ok (.iconst 1, 1) := by decide +kernel
theorem dX11_buyin_12 : decode cX11_buyin 12 = .ok (.iconst 0, 1) := by decide +kernel
theorem dX11_buyin_13 : decode cX11_buyin 13 = .ok (.invokevirtual 264, 3) := by decide +kernel
theorem dX11_buyin_16 : decode cX11_buyin 16 = .ok (.ifCond .eq 39, 3) := by decide +kernel
theorem dX11_buyin_19 : decode cX11_buyin 19 = .ok (.aload_n 0, 1) := by decide +kernel
theorem dX11_buyin_20 : decode cX11_buyin 20 = .ok (.aload_n 0, 1) := by decide +kernel
theorem dX11_buyin_21 : decode cX11_buyin 21 = .ok (.iload_n 1, 1) := by decide +kernel
theorem dX11_buyin_22 : decode cX11_buyin 22 = .ok (.invokevirtual 305, 3) := by decide +kernel
theorem dX11_buyin_25 : decode cX11_buyin 25 = .ok (.iconst 2, 1) := by decide +kernel
theorem dX11_buyin_26 : decode cX11_buyin 26 = .ok (.iconst 2, 1) := by decide +kernel
theorem dX11_buyin_27 : decode cX11_buyin 27 = .ok (.invokevirtual 264, 3) := by decide +kernel
theorem dX11_buyin_30 : decode cX11_buyin 30 = .ok (.ifCond .eq 25, 3) := by decide +kernel
theorem dX11_buyin_33 : decode cX11_buyin 33 = .ok (.aload_n 0, 1) := by decide +kernel
theorem dX11_buyin_34 : decode cX11_buyin 34 = .ok (.iload_n 2, 1) := by decide +kernel
theorem dX11_buyin_35 : decode cX11_buyin 35 = .ok (.i2l, 1) := by decide +kernel
theorem dX11_buyin_36 : decode cX11_buyin 36 = .ok (.lconst 1, 1) := by decide +kernel
theorem dX11_buyin_37 : decode cX11_buyin 37 = .ok (.aload_n 0, 1) := by decide +kernel
theorem dX11_buyin_38 : decode cX11_buyin 38 = .ok (.iload_n 1, 1) := by decide +kernel
theorem dX11_buyin_39 : decode cX11_buyin 39 = .ok (.iconst 5, 1) := by decide +kernel
theorem dX11_buyin_40 : decode cX11_buyin 40 = .ok (.invokevirtual 289, 3) := by decide +kernel
theorem dX11_buyin_43 : decode cX11_buyin 43 = .ok (.i2l, 1) := by decide +kernel
theorem dX11_buyin_44 : decode cX11_buyin 44 = .ok (.invokestatic 164, 3) := by decide +kernel
theorem dX11_buyin_47 : decode cX11_buyin 47 = .ok (.iconst 3, 1) := by decide +kernel
theorem dX11_buyin_48 : decode cX11_buyin 48 = .ok (.iconst 1, 1) := by decide +kernel
theorem dX11_buyin_49 : decode cX11_buyin 49 = .ok (.invokevirtual 264, 3) := by decide +kernel
theorem dX11_buyin_52 : decode cX11_buyin 52 = .ok (.ifCond .ne 5, 3) := by decide +kernel
theorem dX11_buyin_55 : decode cX11_buyin 55 = .ok (.iconst 0, 1) := by decide +kernel
theorem dX11_buyin_56 : decode cX11_buyin 56 = .ok (.ireturn, 1) := by decide +kernel
theorem dX11_buyin_57 : decode cX11_buyin 57 = .ok (.aload_n 0, 1) := by decide +kernel
theorem dX11_buyin_58 : decode cX11_buyin 58 = .ok (.invokevirtual 275, 3) := by decide +kernel
theorem dX11_buyin_61 : decode cX11_buyin 61 = .ok (.aload_n 0, 1) := by decide +kernel
theorem dX11_buyin_62 : decode cX11_buyin 62 = .ok (.invokevirtual 345, 3) := by decide +kernel
theorem dX11_buyin_65 : decode cX11_buyin 65 = .ok (.aload_n 0, 1) := by decide +kernel
theorem dX11_buyin_66 : decode cX11_buyin 66 = .ok (.iload_n 1, 1) := by decide +kernel
theorem dX11_buyin_67 : decode cX11_buyin 67 = .ok (.iload_n 2, 1) := by decide +kernel
theorem dX11_buyin_68 : decode cX11_buyin 68 = .ok (.invokevirtual 370, 3) := by decide +kernel
theorem dX11_buyin_71 : decode cX11_buyin 71 = .ok (.aload_n 0, 1) := by decide +kernel
theorem dX11_buyin_72 : decode cX11_buyin 72 = .ok (.iload_n 1, 1) := by decide +kernel
theorem dX11_buyin_73 : decode cX11_buyin 73 = .ok (.iconst 5, 1) := by decide +kernel
theorem dX11_buyin_74 : decode cX11_buyin 74 = .ok (.invokevirtual 289, 3) := by decide +kernel
theorem dX11_buyin_77 : decode cX11_buyin 77 = .ok (.ireturn, 1) := by decide +kernel
theorem dX11_putsAside_0 : decode cX11_putsAside 0 = .ok (.iconst 0, 1) := by decide +kernel
theorem dX11_putsAside_1 : decode cX11_putsAside 1 = .ok (.istore_n 1, 1) := by decide +kernel
theorem dX11_putsAside_2 : decode cX11_putsAside 2 = .ok (.iload_n 1, 1) := by decide +kernel
theorem dX11_putsAside_3 : decode cX11_putsAside 3 = .ok (.sipush 773, 3) := by decide +kernel
theorem dX11_putsAside_6 : decode cX11_putsAside 6 = .ok (.if_icmp .ge 21, 3) := by decide +kernel
theorem dX11_putsAside_9 : decode cX11_putsAside 9 = .ok (.aload_n 0, 1) := by decide +kernel
theorem dX11_putsAside_10 : decode cX11_putsAside 10 = .ok (.getfield 24, 3) := by decide +kernel
theorem dX11_putsAside_13 : decode cX11_putsAside 13 = .ok (.iload_n 1, 1) := by decide +kernel
theorem dX11_putsAside_14 : decode cX11_putsAside 14 = .ok (.aload_n 0, 1) := by decide +kernel
theorem dX11_putsAside_15 : decode cX11_putsAside 15 = .ok (.getfield 17, 3) := by decide +kernel
theorem dX11_putsAside_18 : decode cX11_putsAside 18 = .ok (.iload_n 1, 1) := by decide +kernel
theorem dX11_putsAside_19 : decode cX11_putsAside 19 = .ok (.laload, 1) := by decide +kernel
theorem dX11_putsAside_20 : decode cX11_putsAside 20 = .ok (.lastore, 1) := by decide +kernel
theorem dX11_putsAside_21 : decode cX11_putsAside 21 = .ok (.iinc 1 1, 3) := by decide +kernel
theorem dX11_putsAside_24 : decode cX11_putsAside 24 = .ok (.goto (-22), 3) := by decide +kernel
theorem dX11_putsAside_27 : decode cX11_putsAside 27 = .ok (.return_, 1) := by decide +kernel
theorem dX11_takesBack_0 : decode cX11_takesBack 0 = .ok (.iconst 0, 1) := by decide +kernel
theorem dX11_takesBack_1 : decode cX11_takesBack 1 = .ok (.istore_n 1, 1) := by decide +kernel
theorem dX11_takesBack_2 : decode cX11_takesBack 2 = .ok (.iload_n 1, 1) := by decide +kernel
theorem dX11_takesBack_3 : decode cX11_takesBack 3 = .ok (.sipush 773, 3) := by decide +kernel
theorem dX11_takesBack_6 : decode cX11_takesBack 6 = .ok (.if_icmp .ge 21, 3) := by decide +kernel
theorem dX11_takesBack_9 : decode cX11_takesBack 9 = .ok (.aload_n 0, 1) := by decide +kernel
theorem dX11_takesBack_10 : decode cX11_takesBack 10 = .ok (.getfield 17, 3) := by decide +kernel
theorem dX11_takesBack_13 : decode cX11_takesBack 13 = .ok (.iload_n 1, 1) := by decide +kernel
theorem dX11_takesBack_14 : decode cX11_takesBack 14 = .ok (.aload_n 0, 1) := by decide +kernel
theorem dX11_takesBack_15 : decode cX11_takesBack 15 = .ok (.getfield 24, 3) := by decide +kernel
theorem dX11_takesBack_18 : decode cX11_takesBack 18 = .ok (.iload_n 1, 1) := by decide +kernel
theorem dX11_takesBack_19 : decode cX11_takesBack 19 = .ok (.laload, 1) := by decide +kernel
theorem dX11_takesBack_20 : decode cX11_takesBack 20 = .ok (.lastore, 1) := by decide +kernel
theorem dX11_takesBack_21 : decode cX11_takesBack 21 = .ok (.iinc 1 1, 3) := by decide +kernel
theorem dX11_takesBack_24 : decode cX11_takesBack 24 = .ok (.goto (-22), 3) := by decide +kernel
theorem dX11_takesBack_27 : decode cX11_takesBack 27 = .ok (.return_, 1) := by decide +kernel
theorem dX11_fails_0 : decode cX11_fails 0 = .ok (.iconst 0, 1) := by decide +kernel
theorem dX11_fails_1 : decode cX11_fails 1 = .ok (.istore_n 1, 1) := by decide +kernel
theorem dX11_fails_2 : decode cX11_fails 2 = .ok (.iconst 0, 1) := by decide +kernel
theorem dX11_fails_3 : decode cX11_fails 3 = .ok (.istore_n 2, 1) := by decide +kernel
theorem dX11_fails_4 : decode cX11_fails 4 = .ok (.iload_n 2, 1) := by decide +kernel
theorem dX11_fails_5 : decode cX11_fails 5 = .ok (.aload_n 0, 1) := by decide +kernel
theorem dX11_fails_6 : decode cX11_fails 6 = .ok (.invokevirtual 278, 3) := by decide +kernel
theorem dX11_fails_9 : decode cX11_fails 9 = .ok (.if_icmp .ge 25, 3) := by decide +kernel
theorem dX11_fails_12 : decode cX11_fails 12 = .ok (.iload_n 1, 1) := by decide +kernel
theorem dX11_fails_13 : decode cX11_fails 13 = .ok (.aload_n 0, 1) := by decide +kernel
theorem dX11_fails_14 : decode cX11_fails 14 = .ok (.iload_n 2, 1) := by decide +kernel
theorem dX11_fails_15 : decode cX11_fails 15 = .ok (.invokevirtual 305, 3) := by decide +kernel
theorem dX11_fails_18 : decode cX11_fails 18 = .ok (.ifCond .eq 7, 3) := by decide +kernel
theorem dX11_fails_21 : decode cX11_fails 21 = .ok (.iconst 1, 1) := by decide +kernel
theorem dX11_fails_22 : decode cX11_fails 22 = .ok (.goto 4, 3) := by decide +kernel
theorem dX11_fails_25 : decode cX11_fails 25 = .ok (.iconst 0, 1) := by decide +kernel
theorem dX11_fails_26 : decode cX11_fails 26 = .ok (.iadd, 1) := by decide +kernel
theorem dX11_fails_27 : decode cX11_fails 27 = .ok (.istore_n 1, 1) := by decide +kernel
theorem dX11_fails_28 : decode cX11_fails 28 = .ok (.iinc 2 1, 3) := by decide +kernel
theorem dX11_fails_31 : decode cX11_fails 31 = .ok (.goto (-27), 3) := by decide +kernel
theorem dX11_fails_34 : decode cX11_fails 34 = .ok (.iload_n 1, 1) := by decide +kernel
theorem dX11_fails_35 : decode cX11_fails 35 = .ok (.ireturn, 1) := by decide +kernel
theorem dX11_unitsOf_0 : decode cX11_unitsOf 0 = .ok (.iconst 0, 1) := by decide +kernel
theorem dX11_unitsOf_1 : decode cX11_unitsOf 1 = .ok (.istore_n 3, 1) := by decide +kernel
theorem dX11_unitsOf_2 : decode cX11_unitsOf 2 = .ok (.iconst 0, 1) := by decide +kernel
theorem dX11_unitsOf_3 : decode cX11_unitsOf 3 = .ok (.istore 4, 2) := by decide +kernel
theorem dX11_unitsOf_5 : decode cX11_unitsOf 5 = .ok (.iload 4, 2) := by decide +kernel
theorem dX11_unitsOf_7 : decode cX11_unitsOf 7 = .ok (.aload_n 0, 1) := by decide +kernel
theorem dX11_unitsOf_8 : decode cX11_unitsOf 8 = .ok (.invokevirtual 278, 3) := by decide +kernel
theorem dX11_unitsOf_11 : decode cX11_unitsOf 11 = .ok (.if_icmp .ge 60, 3) := by decide +kernel
theorem dX11_unitsOf_14 : decode cX11_unitsOf 14 = .ok (.aload_n 0, 1) := by decide +kernel
theorem dX11_unitsOf_15 : decode cX11_unitsOf 15 = .ok (.iload 4, 2) := by decide +kernel
theorem dX11_unitsOf_17 : decode cX11_unitsOf 17 = .ok (.invokevirtual 305, 3) := by decide +kernel
theorem dX11_unitsOf_20 : decode cX11_unitsOf 20 = .ok (.ifCond .eq 45, 3) := by decide +kernel
theorem dX11_unitsOf_23 : decode cX11_unitsOf 23 = .ok (.iload_n 1, 1) := by decide +kernel
theorem dX11_unitsOf_24 : decode cX11_unitsOf 24 = .ok (.iconst (-1), 1) := by decide +kernel
theorem dX11_unitsOf_25 : decode cX11_unitsOf 25 = .ok (.if_icmp .eq 14, 3) := by decide +kernel
theorem dX11_unitsOf_28 : decode cX11_unitsOf 28 = .ok (.aload_n 0, 1) := by decide +kernel
theorem dX11_unitsOf_29 : decode cX11_unitsOf 29 = .ok (.iload 4, 2) := by decide +kernel
theorem dX11_unitsOf_31 : decode cX11_unitsOf 31 = .ok (.iconst 0, 1) := by decide +kernel
theorem dX11_unitsOf_32 : decode cX11_unitsOf 32 = .ok (.invokevirtual 289, 3) := by decide +kernel
theorem dX11_unitsOf_35 : decode cX11_unitsOf 35 = .ok (.iload_n 1, 1) := by decide +kernel
theorem dX11_unitsOf_36 : decode cX11_unitsOf 36 = .ok (.if_icmp .ne 29, 3) := by decide +kernel
theorem dX11_unitsOf_39 : decode cX11_unitsOf 39 = .ok (.iload_n 2, 1) := by decide +kernel
theorem dX11_unitsOf_40 : decode cX11_unitsOf 40 = .ok (.iconst (-1), 1) := by decide +kernel
theorem dX11_unitsOf_41 : decode cX11_unitsOf 41 = .ok (.if_icmp .eq 14, 3) := by decide +kernel
theorem dX11_unitsOf_44 : decode cX11_unitsOf 44 = .ok (.aload_n 0, 1) := by decide +kernel
theorem dX11_unitsOf_45 : decode cX11_unitsOf 45 = .ok (.iload 4, 2) := by decide +kernel
theorem dX11_unitsOf_47 : decode cX11_unitsOf 47 = .ok (.iconst 1, 1) := by decide +kernel
theorem dX11_unitsOf_48 : decode cX11_unitsOf 48 = .ok (.invokevirtual 289, 3) := by decide +kernel
theorem dX11_unitsOf_51 : decode cX11_unitsOf 51 = .ok (.iload_n 2, 1) := by decide +kernel
theorem dX11_unitsOf_52 : decode cX11_unitsOf 52 = .ok (.if_icmp .ne 13, 3) := by decide +kernel
theorem dX11_unitsOf_55 : decode cX11_unitsOf 55 = .ok (.iload_n 3, 1) := by decide +kernel
theorem dX11_unitsOf_56 : decode cX11_unitsOf 56 = .ok (.aload_n 0, 1) := by decide +kernel
theorem dX11_unitsOf_57 : decode cX11_unitsOf 57 = .ok (.iload 4, 2) := by decide +kernel
theorem dX11_unitsOf_59 : decode cX11_unitsOf 59 = .ok (.iconst 5, 1) := by decide +kernel
theorem dX11_unitsOf_60 : decode cX11_unitsOf 60 = .ok (.invokevirtual 289, 3) := by decide +kernel
theorem dX11_unitsOf_63 : decode cX11_unitsOf 63 = .ok (.iadd, 1) := by decide +kernel
theorem dX11_unitsOf_64 : decode cX11_unitsOf 64 = .ok (.istore_n 3, 1) := by decide +kernel
theorem dX11_unitsOf_65 : decode cX11_unitsOf 65 = .ok (.iinc 4 1, 3) := by decide +kernel
theorem dX11_unitsOf_68 : decode cX11_unitsOf 68 = .ok (.goto (-63), 3) := by decide +kernel
theorem dX11_unitsOf_71 : decode cX11_unitsOf 71 = .ok (.iload_n 3, 1) := by decide +kernel
theorem dX11_unitsOf_72 : decode cX11_unitsOf 72 = .ok (.ireturn, 1) := by decide +kernel
theorem dX11_told_0 : decode cX11_told 0 = .ok (.aload_n 0, 1) := by decide +kernel
theorem dX11_told_1 : decode cX11_told 1 = .ok (.iconst 0, 1) := by decide +kernel
theorem dX11_told_2 : decode cX11_told 2 = .ok (.putfield 1, 3) := by decide +kernel
theorem dX11_told_5 : decode cX11_told 5 = .ok (.aload_n 0, 1) := by decide +kernel
theorem dX11_told_6 : decode cX11_told 6 = .ok (.iload_n 1, 1) := by decide +kernel
theorem dX11_told_7 : decode cX11_told 7 = .ok (.i2l, 1) := by decide +kernel
theorem dX11_told_8 : decode cX11_told 8 = .ok (.lconst 0, 1) := by decide +kernel
theorem dX11_told_9 : decode cX11_told 9 = .ok (.ldc2_w 152, 3) := by decide +kernel
theorem dX11_told_12 : decode cX11_told 12 = .ok (.invokestatic 164, 3) := by decide +kernel
theorem dX11_told_15 : decode cX11_told 15 = .ok (.iconst 1, 1) := by decide +kernel
theorem dX11_told_16 : decode cX11_told 16 = .ok (.iconst 1, 1) := by decide +kernel
theorem dX11_told_17 : decode cX11_told 17 = .ok (.invokevirtual 264, 3) := by decide +kernel
theorem dX11_told_20 : decode cX11_told 20 = .ok (.ifCond .ne 5, 3) := by decide +kernel
theorem dX11_told_23 : decode cX11_told 23 = .ok (.iconst 0, 1) := by decide +kernel
theorem dX11_told_24 : decode cX11_told 24 = .ok (.ireturn, 1) := by decide +kernel
theorem dX11_told_25 : decode cX11_told 25 = .ok (.iload_n 1, 1) := by decide +kernel
theorem dX11_told_26 : decode cX11_told 26 = .ok (.tableswitch 52 7 10 #[30, 35, 42, 47], 30) := by decide +kernel
theorem dX11_told_56 : decode cX11_told 56 = .ok (.aload_n 0, 1) := by decide +kernel
theorem dX11_told_57 : decode cX11_told 57 = .ok (.invokevirtual 381, 3) := by decide +kernel
theorem dX11_told_60 : decode cX11_told 60 = .ok (.ireturn, 1) := by decide +kernel
theorem dX11_told_61 : decode cX11_told 61 = .ok (.aload_n 0, 1) := by decide +kernel
theorem dX11_told_62 : decode cX11_told 62 = .ok (.iconst (-1), 1) := by decide +kernel
theorem dX11_told_63 : decode cX11_told 63 = .ok (.iconst (-1), 1) := by decide +kernel
theorem dX11_told_64 : decode cX11_told 64 = .ok (.invokevirtual 384, 3) := by decide +kernel
theorem dX11_told_67 : decode cX11_told 67 = .ok (.ireturn, 1) := by decide +kernel
theorem dX11_told_68 : decode cX11_told 68 = .ok (.aload_n 0, 1) := by decide +kernel
theorem dX11_told_69 : decode cX11_told 69 = .ok (.getfield 99, 3) := by decide +kernel
theorem dX11_told_72 : decode cX11_told 72 = .ok (.ireturn, 1) := by decide +kernel
theorem dX11_told_73 : decode cX11_told 73 = .ok (.aload_n 0, 1) := by decide +kernel
theorem dX11_told_74 : decode cX11_told 74 = .ok (.getfield 96, 3) := by decide +kernel
theorem dX11_told_77 : decode cX11_told 77 = .ok (.ireturn, 1) := by decide +kernel
theorem dX11_told_78 : decode cX11_told 78 = .ok (.aload_n 0, 1) := by decide +kernel
theorem dX11_told_79 : decode cX11_told 79 = .ok (.getfield 17, 3) := by decide +kernel
theorem dX11_told_82 : decode cX11_told 82 = .ok (.iload_n 1, 1) := by decide +kernel
theorem dX11_told_83 : decode cX11_told 83 = .ok (.laload, 1) := by decide +kernel
theorem dX11_told_84 : decode cX11_told 84 = .ok (.l2i, 1) := by decide +kernel
theorem dX11_told_85 : decode cX11_told 85 = .ok (.ireturn, 1) := by decide +kernel
theorem dX11_faults_0 : decode cX11_faults 0 = .ok (.aload_n 0, 1) := by decide +kernel
theorem dX11_faults_1 : decode cX11_faults 1 = .ok (.invokevirtual 345, 3) := by decide +kernel
theorem dX11_faults_4 : decode cX11_faults 4 = .ok (.aload_n 0, 1) := by decide +kernel
theorem dX11_faults_5 : decode cX11_faults 5 = .ok (.invokevirtual 338, 3) := by decide +kernel
theorem dX11_faults_8 : decode cX11_faults 8 = .ok (.iconst 0, 1) := by decide +kernel
theorem dX11_faults_9 : decode cX11_faults 9 = .ok (.istore_n 2, 1) := by decide +kernel
theorem dX11_faults_10 : decode cX11_faults 10 = .ok (.iconst 0, 1) := by decide +kernel
theorem dX11_faults_11 : decode cX11_faults 11 = .ok (.istore_n 3, 1) := by decide +kernel
theorem dX11_faults_12 : decode cX11_faults 12 = .ok (.iload_n 3, 1) := by decide +kernel
theorem dX11_faults_13 : decode cX11_faults 13 = .ok (.aload_n 0, 1) := by decide +kernel
theorem dX11_faults_14 : decode cX11_faults 14 = .ok (.invokevirtual 278, 3) := by decide +kernel
theorem dX11_faults_17 : decode cX11_faults 17 = .ok (.if_icmp .ge 32, 3) := by decide +kernel
theorem dX11_faults_20 : decode cX11_faults 20 = .ok (.iload_n 2, 1) := by decide +kernel
theorem dX11_faults_21 : decode cX11_faults 21 = .ok (.aload_n 0, 1) := by decide +kernel
theorem dX11_faults_22 : decode cX11_faults 22 = .ok (.iload_n 3, 1) := by decide +kernel
theorem dX11_faults_23 : decode cX11_faults 23 = .ok (.iconst 0, 1) := by decide +kernel
theorem dX11_faults_24 : decode cX11_faults 24 = .ok (.invokevirtual 289, 3) := by decide +kernel
theorem dX11_faults_27 : decode cX11_faults 27 = .ok (.iload_n 1, 1) := by decide +kernel
theorem dX11_faults_28 : decode cX11_faults 28 = .ok (.if_icmp .ne 12, 3) := by decide +kernel
theorem dX11_faults_31 : decode cX11_faults 31 = .ok (.aload_n 0, 1) := by decide +kernel
theorem dX11_faults_32 : decode cX11_faults 32 = .ok (.getfield 61, 3) := by decide +kernel
theorem dX11_faults_35 : decode cX11_faults 35 = .ok (.iload_n 3, 1) := by decide +kernel
theorem dX11_faults_36 : decode cX11_faults 36 = .ok (.iaload, 1) := by decide +kernel
theorem dX11_faults_37 : decode cX11_faults 37 = .ok (.goto 4, 3) := by decide +kernel
theorem dX11_faults_40 : decode cX11_faults 40 = .ok (.iconst 0, 1) := by decide +kernel
theorem dX11_faults_41 : decode cX11_faults 41 = .ok (.iadd, 1) := by decide +kernel
theorem dX11_faults_42 : decode cX11_faults 42 = .ok (.istore_n 2, 1) := by decide +kernel
theorem dX11_faults_43 : decode cX11_faults 43 = .ok (.iinc 3 1, 3) := by decide +kernel
theorem dX11_faults_46 : decode cX11_faults 46 = .ok (.goto (-34), 3) := by decide +kernel
theorem dX11_faults_49 : decode cX11_faults 49 = .ok (.iload_n 2, 1) := by decide +kernel
theorem dX11_faults_50 : decode cX11_faults 50 = .ok (.ireturn, 1) := by decide +kernel
theorem dX11_dealer_0 : decode cX11_dealer 0 = .ok (.aload_n 0, 1) := by decide +kernel
theorem dX11_dealer_1 : decode cX11_dealer 1 = .ok (.iconst 0, 1) := by decide +kernel
theorem dX11_dealer_2 : decode cX11_dealer 2 = .ok (.putfield 1, 3) := by decide +kernel
theorem dX11_dealer_5 : decode cX11_dealer 5 = .ok (.aload_n 0, 1) := by decide +kernel
theorem dX11_dealer_6 : decode cX11_dealer 6 = .ok (.aload_n 0, 1) := by decide +kernel
theorem dX11_dealer_7 : decode cX11_dealer 7 = .ok (.iload_n 1, 1) := by decide +kernel
theorem dX11_dealer_8 : decode cX11_dealer 8 = .ok (.invokevirtual 284, 3) := by decide +kernel
theorem dX11_dealer_11 : decode cX11_dealer 11 = .ok (.iconst 1, 1) := by decide +kernel
theorem dX11_dealer_12 : decode cX11_dealer 12 = .ok (.iconst 0, 1) := by decide +kernel
theorem dX11_dealer_13 : decode cX11_dealer 13 = .ok (.invokevirtual 264, 3) := by decide +kernel
theorem dX11_dealer_16 : decode cX11_dealer 16 = .ok (.ifCond .eq 21, 3) := by decide +kernel
theorem dX11_dealer_19 : decode cX11_dealer 19 = .ok (.aload_n 0, 1) := by decide +kernel
theorem dX11_dealer_20 : decode cX11_dealer 20 = .ok (.iload_n 2, 1) := by decide +kernel
theorem dX11_dealer_21 : decode cX11_dealer 21 = .ok (.i2l, 1) := by decide +kernel
theorem dX11_dealer_22 : decode cX11_dealer 22 = .ok (.lconst 0, 1) := by decide +kernel
theorem dX11_dealer_23 : decode cX11_dealer 23 = .ok (.ldc2_w 227, 3) := by decide +kernel
theorem dX11_dealer_26 : decode cX11_dealer 26 = .ok (.invokestatic 164, 3) := by decide +kernel
theorem dX11_dealer_29 : decode cX11_dealer 29 = .ok (.iconst 2, 1) := by decide +kernel
theorem dX11_dealer_30 : decode cX11_dealer 30 = .ok (.iconst 1, 1) := by decide +kernel
theorem dX11_dealer_31 : decode cX11_dealer 31 = .ok (.invokevirtual 264, 3) := by decide +kernel
theorem dX11_dealer_34 : decode cX11_dealer 34 = .ok (.ifCond .ne 5, 3) := by decide +kernel
theorem dX11_dealer_37 : decode cX11_dealer 37 = .ok (.lconst 0, 1) := by decide +kernel
theorem dX11_dealer_38 : decode cX11_dealer 38 = .ok (.lreturn, 1) := by decide +kernel
theorem dX11_dealer_39 : decode cX11_dealer 39 = .ok (.iload_n 2, 1) := by decide +kernel
theorem dX11_dealer_40 : decode cX11_dealer 40 = .ok (.tableswitch 89 4 8 #[36, 44, 52, 59, 74], 36) := by decide +kernel
theorem dX11_dealer_76 : decode cX11_dealer 76 = .ok (.aload_n 0, 1) := by decide +kernel
theorem dX11_dealer_77 : decode cX11_dealer 77 = .ok (.iload_n 1, 1) := by decide +kernel
theorem dX11_dealer_78 : decode cX11_dealer 78 = .ok (.iconst (-1), 1) := by decide +kernel
theorem dX11_dealer_79 : decode cX11_dealer 79 = .ok (.invokevirtual 384, 3) := by decide +kernel
theorem dX11_dealer_82 : decode cX11_dealer 82 = .ok (.i2l, 1) := by decide +kernel
theorem dX11_dealer_83 : decode cX11_dealer 83 = .ok (.lreturn, 1) := by decide +kernel
theorem dX11_dealer_84 : decode cX11_dealer 84 = .ok (.aload_n 0, 1) := by decide +kernel
theorem dX11_dealer_85 : decode cX11_dealer 85 = .ok (.iconst (-1), 1) := by decide +kernel
theorem dX11_dealer_86 : decode cX11_dealer 86 = .ok (.iload_n 1, 1) := by decide +kernel
theorem dX11_dealer_87 : decode cX11_dealer 87 = .ok (.invokevirtual 384, 3) := by decide +kernel
theorem dX11_dealer_90 : decode cX11_dealer 90 = .ok (.i2l, 1) := by decide +kernel
theorem dX11_dealer_91 : decode cX11_dealer 91 = .ok (.lreturn, 1) := by decide +kernel
theorem dX11_dealer_92 : decode cX11_dealer 92 = .ok (.aload_n 0, 1) := by decide +kernel
theorem dX11_dealer_93 : decode cX11_dealer 93 = .ok (.iload_n 1, 1) := by decide +kernel
theorem dX11_dealer_94 : decode cX11_dealer 94 = .ok (.invokevirtual 387, 3) := by decide +kernel
theorem dX11_dealer_97 : decode cX11_dealer 97 = .ok (.i2l, 1) := by decide +kernel
theorem dX11_dealer_98 : decode cX11_dealer 98 = .ok (.lreturn, 1) := by decide +kernel
theorem dX11_dealer_99 : decode cX11_dealer 99 = .ok (.aload_n 0, 1) := by decide +kernel
theorem dX11_dealer_100 : decode cX11_dealer 100 = .ok (.getfield 17, 3) := by decide +kernel
theorem dX11_dealer_103 : decode cX11_dealer 103 = .ok (.bipush 9, 2) := by decide +kernel
theorem dX11_dealer_105 : decode cX11_dealer 105 = .ok (.bipush 6, 2) := by decide +kernel
theorem dX11_dealer_107 : decode cX11_dealer 107 = .ok (.iload_n 1, 1) := by decide +kernel
theorem dX11_dealer_108 : decode cX11_dealer 108 = .ok (.imul, 1) := by decide +kernel
theorem dX11_dealer_109 : decode cX11_dealer 109 = .ok (.iadd, 1) := by decide +kernel
theorem dX11_dealer_110 : decode cX11_dealer 110 = .ok (.iconst 4, 1) := by decide +kernel
theorem dX11_dealer_111 : decode cX11_dealer 111 = .ok (.iadd, 1) := by decide +kernel
theorem dX11_dealer_112 : decode cX11_dealer 112 = .ok (.laload, 1) := by decide +kernel
theorem dX11_dealer_113 : decode cX11_dealer 113 = .ok (.lreturn, 1) := by decide +kernel
theorem dX11_dealer_114 : decode cX11_dealer 114 = .ok (.aload_n 0, 1) := by decide +kernel
theorem dX11_dealer_115 : decode cX11_dealer 115 = .ok (.getfield 17, 3) := by decide +kernel
theorem dX11_dealer_118 : decode cX11_dealer 118 = .ok (.bipush 9, 2) := by decide +kernel
theorem dX11_dealer_120 : decode cX11_dealer 120 = .ok (.bipush 6, 2) := by decide +kernel
theorem dX11_dealer_122 : decode cX11_dealer 122 = .ok (.iload_n 1, 1) := by decide +kernel
theorem dX11_dealer_123 : decode cX11_dealer 123 = .ok (.imul, 1) := by decide +kernel
theorem dX11_dealer_124 : decode cX11_dealer 124 = .ok (.iadd, 1) := by decide +kernel
theorem dX11_dealer_125 : decode cX11_dealer 125 = .ok (.iconst 5, 1) := by decide +kernel
theorem dX11_dealer_126 : decode cX11_dealer 126 = .ok (.iadd, 1) := by decide +kernel
theorem dX11_dealer_127 : decode cX11_dealer 127 = .ok (.laload, 1) := by decide +kernel
theorem dX11_dealer_128 : decode cX11_dealer 128 = .ok (.lreturn, 1) := by decide +kernel
theorem dX11_dealer_129 : decode cX11_dealer 129 = .ok (.aload_n 0, 1) := by decide +kernel
theorem dX11_dealer_130 : decode cX11_dealer 130 = .ok (.getfield 17, 3) := by decide +kernel
theorem dX11_dealer_133 : decode cX11_dealer 133 = .ok (.bipush 9, 2) := by decide +kernel
theorem dX11_dealer_135 : decode cX11_dealer 135 = .ok (.bipush 6, 2) := by decide +kernel
theorem dX11_dealer_137 : decode cX11_dealer 137 = .ok (.iload_n 1, 1) := by decide +kernel
theorem dX11_dealer_138 : decode cX11_dealer 138 = .ok (.imul, 1) := by decide +kernel
theorem dX11_dealer_139 : decode cX11_dealer 139 = .ok (.iadd, 1) := by decide +kernel
theorem dX11_dealer_140 : decode cX11_dealer 140 = .ok (.iload_n 2, 1) := by decide +kernel
theorem dX11_dealer_141 : decode cX11_dealer 141 = .ok (.iadd, 1) := by decide +kernel
theorem dX11_dealer_142 : decode cX11_dealer 142 = .ok (.laload, 1) := by decide +kernel
theorem dX11_dealer_143 : decode cX11_dealer 143 = .ok (.lreturn, 1) := by decide +kernel
theorem dX11_of_0 : decode cX11_of 0 = .ok (.aload_n 0, 1) := by decide +kernel
theorem dX11_of_1 : decode cX11_of 1 = .ok (.iconst 0, 1) := by decide +kernel
theorem dX11_of_2 : decode cX11_of 2 = .ok (.putfield 1, 3) := by decide +kernel
theorem dX11_of_5 : decode cX11_of 5 = .ok (.aload_n 0, 1) := by decide +kernel
theorem dX11_of_6 : decode cX11_of 6 = .ok (.aload_n 0, 1) := by decide +kernel
theorem dX11_of_7 : decode cX11_of 7 = .ok (.iload_n 1, 1) := by decide +kernel
theorem dX11_of_8 : decode cX11_of 8 = .ok (.invokevirtual 378, 3) := by decide +kernel
theorem dX11_of_11 : decode cX11_of 11 = .ok (.iconst 1, 1) := by decide +kernel
theorem dX11_of_12 : decode cX11_of 12 = .ok (.iconst 0, 1) := by decide +kernel
theorem dX11_of_13 : decode cX11_of 13 = .ok (.invokevirtual 264, 3) := by decide +kernel
theorem dX11_of_16 : decode cX11_of 16 = .ok (.ifCond .eq 21, 3) := by decide +kernel
theorem dX11_of_19 : decode cX11_of 19 = .ok (.aload_n 0, 1) := by decide +kernel
theorem dX11_of_20 : decode cX11_of 20 = .ok (.iload_n 2, 1) := by decide +kernel
theorem dX11_of_21 : decode cX11_of 21 = .ok (.i2l, 1) := by decide +kernel
theorem dX11_of_22 : decode cX11_of 22 = .ok (.lconst 0, 1) := by decide +kernel
theorem dX11_of_23 : decode cX11_of 23 = .ok (.ldc2_w 152, 3) := by decide +kernel
theorem dX11_of_26 : decode cX11_of 26 = .ok (.invokestatic 164, 3) := by decide +kernel
theorem dX11_of_29 : decode cX11_of 29 = .ok (.iconst 2, 1) := by decide +kernel
theorem dX11_of_30 : decode cX11_of 30 = .ok (.iconst 1, 1) := by decide +kernel
theorem dX11_of_31 : decode cX11_of 31 = .ok (.invokevirtual 264, 3) := by decide +kernel
theorem dX11_of_34 : decode cX11_of 34 = .ok (.ifCond .ne 5, 3) := by decide +kernel
theorem dX11_of_37 : decode cX11_of 37 = .ok (.iconst 0, 1) := by decide +kernel
theorem dX11_of_38 : decode cX11_of 38 = .ok (.ireturn, 1) := by decide +kernel
theorem dX11_of_39 : decode cX11_of 39 = .ok (.iload_n 2, 1) := by decide +kernel
theorem dX11_of_40 : decode cX11_of 40 = .ok (.bipush 9, 2) := by decide +kernel
theorem dX11_of_42 : decode cX11_of 42 = .ok (.if_icmp .ge 10, 3) := by decide +kernel
theorem dX11_of_45 : decode cX11_of 45 = .ok (.aload_n 0, 1) := by decide +kernel
theorem dX11_of_46 : decode cX11_of 46 = .ok (.iload_n 1, 1) := by decide +kernel
theorem dX11_of_47 : decode cX11_of 47 = .ok (.iload_n 2, 1) := by decide +kernel
theorem dX11_of_48 : decode cX11_of 48 = .ok (.invokevirtual 289, 3) := by decide +kernel
theorem dX11_of_51 : decode cX11_of 51 = .ok (.ireturn, 1) := by decide +kernel
theorem dX11_of_52 : decode cX11_of 52 = .ok (.iload_n 2, 1) := by decide +kernel
theorem dX11_of_53 : decode cX11_of 53 = .ok (.bipush 10, 2) := by decide +kernel
theorem dX11_of_55 : decode cX11_of 55 = .ok (.if_icmp .ne 17, 3) := by decide +kernel
theorem dX11_of_58 : decode cX11_of 58 = .ok (.aload_n 0, 1) := by decide +kernel
theorem dX11_of_59 : decode cX11_of 59 = .ok (.iload_n 1, 1) := by decide +kernel
theorem dX11_of_60 : decode cX11_of 60 = .ok (.invokevirtual 305, 3) := by decide +kernel
theorem dX11_of_63 : decode cX11_of 63 = .ok (.ifCond .eq 7, 3) := by decide +kernel
theorem dX11_of_66 : decode cX11_of 66 = .ok (.iconst 1, 1) := by decide +kernel
theorem dX11_of_67 : decode cX11_of 67 = .ok (.goto 4, 3) := by decide +kernel
theorem dX11_of_70 : decode cX11_of 70 = .ok (.iconst 0, 1) := by decide +kernel
theorem dX11_of_71 : decode cX11_of 71 = .ok (.ireturn, 1) := by decide +kernel
theorem dX11_of_72 : decode cX11_of 72 = .ok (.aload_n 0, 1) := by decide +kernel
theorem dX11_of_73 : decode cX11_of 73 = .ok (.invokevirtual 345, 3) := by decide +kernel
theorem dX11_of_76 : decode cX11_of 76 = .ok (.iconst 0, 1) := by decide +kernel
theorem dX11_of_77 : decode cX11_of 77 = .ok (.istore_n 3, 1) := by decide +kernel
theorem dX11_of_78 : decode cX11_of 78 = .ok (.aload_n 0, 1) := by decide +kernel
theorem dX11_of_79 : decode cX11_of 79 = .ok (.getfield 43, 3) := by decide +kernel
theorem dX11_of_82 : decode cX11_of 82 = .ok (.iload_n 3, 1) := by decide +kernel
theorem dX11_of_83 : decode cX11_of 83 = .ok (.iaload, 1) := by decide +kernel
theorem dX11_of_84 : decode cX11_of 84 = .ok (.iload_n 1, 1) := by decide +kernel
theorem dX11_of_85 : decode cX11_of 85 = .ok (.if_icmp .eq 9, 3) := by decide +kernel
theorem dX11_of_88 : decode cX11_of 88 = .ok (.iinc 3 1, 3) := by decide +kernel
theorem dX11_of_91 : decode cX11_of 91 = .ok (.goto (-13), 3) := by decide +kernel
theorem dX11_of_94 : decode cX11_of 94 = .ok (.iload_n 3, 1) := by decide +kernel
theorem dX11_of_95 : decode cX11_of 95 = .ok (.ireturn, 1) := by decide +kernel
theorem dX11_rule_0 : decode cX11_rule 0 = .ok (.aload_n 0, 1) := by decide +kernel
theorem dX11_rule_1 : decode cX11_rule 1 = .ok (.iconst 0, 1) := by decide +kernel
theorem dX11_rule_2 : decode cX11_rule 2 = .ok (.putfield 1, 3) := by decide +kernel
theorem dX11_rule_5 : decode cX11_rule 5 = .ok (.aload_n 0, 1) := by decide +kernel
theorem dX11_rule_6 : decode cX11_rule 6 = .ok (.aload_n 0, 1) := by decide +kernel
theorem dX11_rule_7 : decode cX11_rule 7 = .ok (.iload_n 1, 1) := by decide +kernel
theorem dX11_rule_8 : decode cX11_rule 8 = .ok (.invokevirtual 378, 3) := by decide +kernel
theorem dX11_rule_11 : decode cX11_rule 11 = .ok (.iconst 1, 1) := by decide +kernel
theorem dX11_rule_12 : decode cX11_rule 12 = .ok (.iconst 0, 1) := by decide +kernel
theorem dX11_rule_13 : decode cX11_rule 13 = .ok (.invokevirtual 264, 3) := by decide +kernel
theorem dX11_rule_16 : decode cX11_rule 16 = .ok (.ifCond .eq 11, 3) := by decide +kernel
theorem dX11_rule_19 : decode cX11_rule 19 = .ok (.aload_n 0, 1) := by decide +kernel
theorem dX11_rule_20 : decode cX11_rule 20 = .ok (.iload_n 1, 1) := by decide +kernel
theorem dX11_rule_21 : decode cX11_rule 21 = .ok (.invokevirtual 301, 3) := by decide +kernel
theorem dX11_rule_24 : decode cX11_rule 24 = .ok (.goto 4, 3) := by decide +kernel
theorem dX11_rule_27 : decode cX11_rule 27 = .ok (.lconst 0, 1) := by decide +kernel
theorem dX11_rule_28 : decode cX11_rule 28 = .ok (.lreturn, 1) := by decide +kernel
theorem dX11_partMany_0 : decode cX11_partMany 0 = .ok (.aload_n 0, 1) := by decide +kernel
theorem dX11_partMany_1 : decode cX11_partMany 1 = .ok (.invokevirtual 345, 3) := by decide +kernel
theorem dX11_partMany_4 : decode cX11_partMany 4 = .ok (.aload_n 0, 1) := by decide +kernel
theorem dX11_partMany_5 : decode cX11_partMany 5 = .ok (.invokevirtual 338, 3) := by decide +kernel
theorem dX11_partMany_8 : decode cX11_partMany 8 = .ok (.iconst 0, 1) := by decide +kernel
theorem dX11_partMany_9 : decode cX11_partMany 9 = .ok (.istore_n 2, 1) := by decide +kernel
theorem dX11_partMany_10 : decode cX11_partMany 10 = .ok (.aload_n 0, 1) := by decide +kernel
theorem dX11_partMany_11 : decode cX11_partMany 11 = .ok (.iload_n 1, 1) := by decide +kernel
theorem dX11_partMany_12 : decode cX11_partMany 12 = .ok (.iload_n 2, 1) := by decide +kernel
theorem dX11_partMany_13 : decode cX11_partMany 13 = .ok (.invokevirtual 332, 3) := by decide +kernel
theorem dX11_partMany_16 : decode cX11_partMany 16 = .ok (.iconst (-1), 1) := by decide +kernel
theorem dX11_partMany_17 : decode cX11_partMany 17 = .ok (.if_icmp .eq 9, 3) := by decide +kernel
theorem dX11_partMany_20 : decode cX11_partMany 20 = .ok (.iinc 2 1, 3) := by decide +kernel
theorem dX11_partMany_23 : decode cX11_partMany 23 = .ok (.goto (-13), 3) := by decide +kernel
theorem dX11_partMany_26 : decode cX11_partMany 26 = .ok (.iload_n 2, 1) := by decide +kernel
theorem dX11_partMany_27 : decode cX11_partMany 27 = .ok (.ireturn, 1) := by decide +kernel
theorem dX11_part_0 : decode cX11_part 0 = .ok (.aload_n 0, 1) := by decide +kernel
theorem dX11_part_1 : decode cX11_part 1 = .ok (.iconst 0, 1) := by decide +kernel
theorem dX11_part_2 : decode cX11_part 2 = .ok (.putfield 1, 3) := by decide +kernel
theorem dX11_part_5 : decode cX11_part 5 = .ok (.aload_n 0, 1) := by decide +kernel
theorem dX11_part_6 : decode cX11_part 6 = .ok (.aload_n 0, 1) := by decide +kernel
theorem dX11_part_7 : decode cX11_part 7 = .ok (.iload_n 1, 1) := by decide +kernel
theorem dX11_part_8 : decode cX11_part 8 = .ok (.invokevirtual 378, 3) := by decide +kernel
theorem dX11_part_11 : decode cX11_part 11 = .ok (.ifCond .eq 38, 3) := by decide +kernel
theorem dX11_part_14 : decode cX11_part 14 = .ok (.iload_n 2, 1) := by decide +kernel
theorem dX11_part_15 : decode cX11_part 15 = .ok (.i2l, 1) := by decide +kernel
theorem dX11_part_16 : decode cX11_part 16 = .ok (.lconst 0, 1) := by decide +kernel
theorem dX11_part_17 : decode cX11_part 17 = .ok (.aload_n 0, 1) := by decide +kernel
theorem dX11_part_18 : decode cX11_part 18 = .ok (.iload_n 1, 1) := by decide +kernel
theorem dX11_part_19 : decode cX11_part 19 = .ok (.invokevirtual 378, 3) := by decide +kernel
theorem dX11_part_22 : decode cX11_part 22 = .ok (.ifCond .eq 14, 3) := by decide +kernel
theorem dX11_part_25 : decode cX11_part 25 = .ok (.aload_n 0, 1) := by decide +kernel
theorem dX11_part_26 : decode cX11_part 26 = .ok (.iload_n 1, 1) := by decide +kernel
theorem dX11_part_27 : decode cX11_part 27 = .ok (.invokevirtual 391, 3) := by decide +kernel
theorem dX11_part_30 : decode cX11_part 30 = .ok (.iconst 1, 1) := by decide +kernel
theorem dX11_part_31 : decode cX11_part 31 = .ok (.isub, 1) := by decide +kernel
theorem dX11_part_32 : decode cX11_part 32 = .ok (.i2l, 1) := by decide +kernel
theorem dX11_part_33 : decode cX11_part 33 = .ok (.goto 6, 3) := by decide +kernel
theorem dX11_part_36 : decode cX11_part 36 = .ok (.ldc2_w 225, 3) := by decide +kernel
theorem dX11_part_39 : decode cX11_part 39 = .ok (.invokestatic 164, 3) := by decide +kernel
theorem dX11_part_42 : decode cX11_part 42 = .ok (.ifCond .eq 7, 3) := by decide +kernel
theorem dX11_part_45 : decode cX11_part 45 = .ok (.iconst 1, 1) := by decide +kernel
theorem dX11_part_46 : decode cX11_part 46 = .ok (.goto 4, 3) := by decide +kernel
theorem dX11_part_49 : decode cX11_part 49 = .ok (.iconst 0, 1) := by decide +kernel
theorem dX11_part_50 : decode cX11_part 50 = .ok (.iconst 1, 1) := by decide +kernel
theorem dX11_part_51 : decode cX11_part 51 = .ok (.iconst 0, 1) := by decide +kernel
theorem dX11_part_52 : decode cX11_part 52 = .ok (.invokevirtual 264, 3) := by decide +kernel
theorem dX11_part_55 : decode cX11_part 55 = .ok (.ifCond .eq 19, 3) := by decide +kernel
theorem dX11_part_58 : decode cX11_part 58 = .ok (.aload_n 0, 1) := by decide +kernel
theorem dX11_part_59 : decode cX11_part 59 = .ok (.iload_n 3, 1) := by decide +kernel
theorem dX11_part_60 : decode cX11_part 60 = .ok (.i2l, 1) := by decide +kernel
theorem dX11_part_61 : decode cX11_part 61 = .ok (.lconst 0, 1) := by decide +kernel
theorem dX11_part_62 : decode cX11_part 62 = .ok (.lconst 1, 1) := by decide +kernel
theorem dX11_part_63 : decode cX11_part 63 = .ok (.invokestatic 164, 3) := by decide +kernel
theorem dX11_part_66 : decode cX11_part 66 = .ok (.iconst 2, 1) := by decide +kernel
theorem dX11_part_67 : decode cX11_part 67 = .ok (.iconst 1, 1) := by decide +kernel
theorem dX11_part_68 : decode cX11_part 68 = .ok (.invokevirtual 264, 3) := by decide +kernel
theorem dX11_part_71 : decode cX11_part 71 = .ok (.ifCond .ne 5, 3) := by decide +kernel
theorem dX11_part_74 : decode cX11_part 74 = .ok (.iconst 0, 1) := by decide +kernel
theorem dX11_part_75 : decode cX11_part 75 = .ok (.ireturn, 1) := by decide +kernel
theorem dX11_part_76 : decode cX11_part 76 = .ok (.aload_n 0, 1) := by decide +kernel
theorem dX11_part_77 : decode cX11_part 77 = .ok (.iload_n 1, 1) := by decide +kernel
theorem dX11_part_78 : decode cX11_part 78 = .ok (.iload_n 2, 1) := by decide +kernel
theorem dX11_part_79 : decode cX11_part 79 = .ok (.invokevirtual 332, 3) := by decide +kernel
theorem dX11_part_82 : decode cX11_part 82 = .ok (.istore 4, 2) := by decide +kernel
theorem dX11_part_84 : decode cX11_part 84 = .ok (.iload_n 3, 1) := by decide +kernel
theorem dX11_part_85 : decode cX11_part 85 = .ok (.ifCond .ne 8, 3) := by decide +kernel
theorem dX11_part_88 : decode cX11_part 88 = .ok (.iload 4, 2) := by decide +kernel
theorem dX11_part_90 : decode cX11_part 90 = .ok (.goto 15, 3) := by decide +kernel
theorem dX11_part_93 : decode cX11_part 93 = .ok (.aload_n 0, 1) := by decide +kernel
theorem dX11_part_94 : decode cX11_part 94 = .ok (.getfield 55, 3) := by decide +kernel
theorem dX11_part_97 : decode cX11_part 97 = .ok (.bipush 24, 2) := by decide +kernel
theorem dX11_part_99 : decode cX11_part 99 = .ok (.iload_n 1, 1) := by decide +kernel
theorem dX11_part_100 : decode cX11_part 100 = .ok (.imul, 1) := by decide +kernel
theorem dX11_part_101 : decode cX11_part 101 = .ok (.iload 4, 2) := by decide +kernel
theorem dX11_part_103 : decode cX11_part 103 = .ok (.iadd, 1) := by decide +kernel
theorem dX11_part_104 : decode cX11_part 104 = .ok (.iaload, 1) := by decide +kernel
theorem dX11_part_105 : decode cX11_part 105 = .ok (.ireturn, 1) := by decide +kernel
theorem dX11_parts_0 : decode cX11_parts 0 = .ok (.aload_n 0, 1) := by decide +kernel
theorem dX11_parts_1 : decode cX11_parts 1 = .ok (.iconst 0, 1) := by decide +kernel
theorem dX11_parts_2 : decode cX11_parts 2 = .ok (.putfield 1, 3) := by decide +kernel
theorem dX11_parts_5 : decode cX11_parts 5 = .ok (.aload_n 0, 1) := by decide +kernel
theorem dX11_parts_6 : decode cX11_parts 6 = .ok (.aload_n 0, 1) := by decide +kernel
theorem dX11_parts_7 : decode cX11_parts 7 = .ok (.iload_n 1, 1) := by decide +kernel
theorem dX11_parts_8 : decode cX11_parts 8 = .ok (.invokevirtual 378, 3) := by decide +kernel
theorem dX11_parts_11 : decode cX11_parts 11 = .ok (.iconst 1, 1) := by decide +kernel
theorem dX11_parts_12 : decode cX11_parts 12 = .ok (.iconst 0, 1) := by decide +kernel
theorem dX11_parts_13 : decode cX11_parts 13 = .ok (.invokevirtual 264, 3) := by decide +kernel
theorem dX11_parts_16 : decode cX11_parts 16 = .ok (.ifCond .eq 11, 3) := by decide +kernel
theorem dX11_parts_19 : decode cX11_parts 19 = .ok (.aload_n 0, 1) := by decide +kernel
theorem dX11_parts_20 : decode cX11_parts 20 = .ok (.iload_n 1, 1) := by decide +kernel
theorem dX11_parts_21 : decode cX11_parts 21 = .ok (.invokevirtual 391, 3) := by decide +kernel
theorem dX11_parts_24 : decode cX11_parts 24 = .ok (.goto 4, 3) := by decide +kernel
theorem dX11_parts_27 : decode cX11_parts 27 = .ok (.iconst 0, 1) := by decide +kernel
theorem dX11_parts_28 : decode cX11_parts 28 = .ok (.ireturn, 1) := by decide +kernel
theorem dX11_chain_0 : decode cX11_chain 0 = .ok (.aload_n 0, 1) := by decide +kernel
theorem dX11_chain_1 : decode cX11_chain 1 = .ok (.iconst 0, 1) := by decide +kernel
theorem dX11_chain_2 : decode cX11_chain 2 = .ok (.putfield 1, 3) := by decide +kernel
theorem dX11_chain_5 : decode cX11_chain 5 = .ok (.aload_n 0, 1) := by decide +kernel
theorem dX11_chain_6 : decode cX11_chain 6 = .ok (.aload_n 0, 1) := by decide +kernel
theorem dX11_chain_7 : decode cX11_chain 7 = .ok (.iload_n 1, 1) := by decide +kernel
theorem dX11_chain_8 : decode cX11_chain 8 = .ok (.invokevirtual 378, 3) := by decide +kernel
theorem dX11_chain_11 : decode cX11_chain 11 = .ok (.ifCond .eq 11, 3) := by decide +kernel
theorem dX11_chain_14 : decode cX11_chain 14 = .ok (.iload_n 2, 1) := by decide +kernel
theorem dX11_chain_15 : decode cX11_chain 15 = .ok (.ifCond .lt 7, 3) := by decide +kernel
theorem dX11_chain_18 : decode cX11_chain 18 = .ok (.iconst 1, 1) := by decide +kernel
theorem dX11_chain_19 : decode cX11_chain 19 = .ok (.goto 4, 3) := by decide +kernel
theorem dX11_chain_22 : decode cX11_chain 22 = .ok (.iconst 0, 1) := by decide +kernel
theorem dX11_chain_23 : decode cX11_chain 23 = .ok (.iconst 1, 1) := by decide +kernel
theorem dX11_chain_24 : decode cX11_chain 24 = .ok (.iconst 0, 1) := by decide +kernel
theorem dX11_chain_25 : decode cX11_chain 25 = .ok (.invokevirtual 264, 3) := by decide +kernel
theorem dX11_chain_28 : decode cX11_chain 28 = .ok (.ifCond .ne 5, 3) := by decide +kernel
theorem dX11_chain_31 : decode cX11_chain 31 = .ok (.iconst 0, 1) := by decide +kernel
theorem dX11_chain_32 : decode cX11_chain 32 = .ok (.ireturn, 1) := by decide +kernel
theorem dX11_chain_33 : decode cX11_chain 33 = .ok (.aload_n 0, 1) := by decide +kernel
theorem dX11_chain_34 : decode cX11_chain 34 = .ok (.iload_n 1, 1) := by decide +kernel
theorem dX11_chain_35 : decode cX11_chain 35 = .ok (.invokevirtual 305, 3) := by decide +kernel
theorem dX11_chain_38 : decode cX11_chain 38 = .ok (.istore_n 3, 1) := by decide +kernel
theorem dX11_chain_39 : decode cX11_chain 39 = .ok (.aload_n 0, 1) := by decide +kernel
theorem dX11_chain_40 : decode cX11_chain 40 = .ok (.invokevirtual 345, 3) := by decide +kernel
theorem dX11_chain_43 : decode cX11_chain 43 = .ok (.aload_n 0, 1) := by decide +kernel
theorem dX11_chain_44 : decode cX11_chain 44 = .ok (.invokevirtual 338, 3) := by decide +kernel
theorem dX11_chain_47 : decode cX11_chain 47 = .ok (.iconst 0, 1) := by decide +kernel
theorem dX11_chain_48 : decode cX11_chain 48 = .ok (.istore 4, 2) := by decide +kernel
theorem dX11_chain_50 : decode cX11_chain 50 = .ok (.iload 4, 2) := by decide +kernel
theorem dX11_chain_52 : decode cX11_chain 52 = .ok (.bipush 24, 2) := by decide +kernel
theorem dX11_chain_54 : decode cX11_chain 54 = .ok (.if_icmp .ge 17, 3) := by decide +kernel
theorem dX11_chain_57 : decode cX11_chain 57 = .ok (.aload_n 0, 1) := by decide +kernel
theorem dX11_chain_58 : decode cX11_chain 58 = .ok (.getfield 67, 3) := by decide +kernel
theorem dX11_chain_61 : decode cX11_chain 61 = .ok (.iload 4, 2) := by decide +kernel
theorem dX11_chain_63 : decode cX11_chain 63 = .ok (.iconst 0, 1) := by decide +kernel
theorem dX11_chain_64 : decode cX11_chain 64 = .ok (.bastore, 1) := by decide +kernel
theorem dX11_chain_65 : decode cX11_chain 65 = .ok (.iinc 4 1, 3) := by decide +kernel
theorem dX11_chain_68 : decode cX11_chain 68 = .ok (.goto (-18), 3) := by decide +kernel
theorem dX11_chain_71 : decode cX11_chain 71 = .ok (.iload_n 1, 1) := by decide +kernel
theorem dX11_chain_72 : decode cX11_chain 72 = .ok (.istore 4, 2) := by decide +kernel
theorem dX11_chain_74 : decode cX11_chain 74 = .ok (.iconst 0, 1) := by decide +kernel
theorem dX11_chain_75 : decode cX11_chain 75 = .ok (.istore 5, 2) := by decide +kernel
theorem dX11_chain_77 : decode cX11_chain 77 = .ok (.iload 5, 2) := by decide +kernel
theorem dX11_chain_79 : decode cX11_chain 79 = .ok (.iload_n 2, 1) := by decide +kernel
theorem dX11_chain_80 : decode cX11_chain 80 = .ok (.if_icmp .ge 65, 3) := by decide +kernel
theorem dX11_chain_83 : decode cX11_chain 83 = .ok (.iload_n 3, 1) := by decide +kernel
theorem dX11_chain_84 : decode cX11_chain 84 = .ok (.ifCond .eq 61, 3) := by decide +kernel
theorem dX11_chain_87 : decode cX11_chain 87 = .ok (.aload_n 0, 1) := by decide +kernel
theorem dX11_chain_88 : decode cX11_chain 88 = .ok (.getfield 67, 3) := by decide +kernel
theorem dX11_chain_91 : decode cX11_chain 91 = .ok (.iload 4, 2) := by decide +kernel
theorem dX11_chain_93 : decode cX11_chain 93 = .ok (.iconst 1, 1) := by decide +kernel
theorem dX11_chain_94 : decode cX11_chain 94 = .ok (.bastore, 1) := by decide +kernel
theorem dX11_chain_95 : decode cX11_chain 95 = .ok (.aload_n 0, 1) := by decide +kernel
theorem dX11_chain_96 : decode cX11_chain 96 = .ok (.iload 4, 2) := by decide +kernel
theorem dX11_chain_98 : decode cX11_chain 98 = .ok (.iconst 0, 1) := by decide +kernel
theorem dX11_chain_99 : decode cX11_chain 99 = .ok (.invokevirtual 332, 3) := by decide +kernel
theorem dX11_chain_102 : decode cX11_chain 102 = .ok (.istore 6, 2) := by decide +kernel
theorem dX11_chain_104 : decode cX11_chain 104 = .ok (.iload 6, 2) := by decide +kernel
theorem dX11_chain_106 : decode cX11_chain 106 = .ok (.iconst (-1), 1) := by decide +kernel
theorem dX11_chain_107 : decode cX11_chain 107 = .ok (.if_icmp .eq 17, 3) := by decide +kernel
theorem dX11_chain_110 : decode cX11_chain 110 = .ok (.aload_n 0, 1) := by decide +kernel
theorem dX11_chain_111 : decode cX11_chain 111 = .ok (.getfield 67, 3) := by decide +kernel
theorem dX11_chain_114 : decode cX11_chain 114 = .ok (.iload 6, 2) := by decide +kernel
theorem dX11_chain_116 : decode cX11_chain 116 = .ok (.baload, 1) := by decide +kernel
theorem dX11_chain_117 : decode cX11_chain 117 = .ok (.ifCond .ne 7, 3) := by decide +kernel
theorem dX11_chain_120 : decode cX11_chain 120 = .ok (.iconst 1, 1) := by decide +kernel
theorem dX11_chain_121 : decode cX11_chain 121 = .ok (.goto 4, 3) := by decide +kernel
theorem dX11_chain_124 : decode cX11_chain 124 = .ok (.iconst 0, 1) := by decide +kernel
theorem dX11_chain_125 : decode cX11_chain 125 = .ok (.istore_n 3, 1) := by decide +kernel
theorem dX11_chain_126 : decode cX11_chain 126 = .ok (.iload_n 3, 1) := by decide +kernel
theorem dX11_chain_127 : decode cX11_chain 127 = .ok (.ifCond .eq 8, 3) := by decide +kernel
theorem dX11_chain_130 : decode cX11_chain 130 = .ok (.iload 6, 2) := by decide +kernel
theorem dX11_chain_132 : decode cX11_chain 132 = .ok (.goto 5, 3) := by decide +kernel
theorem dX11_chain_135 : decode cX11_chain 135 = .ok (.iload 4, 2) := by decide +kernel
theorem dX11_chain_137 : decode cX11_chain 137 = .ok (.istore 4, 2) := by decide +kernel
theorem dX11_chain_139 : decode cX11_chain 139 = .ok (.iinc 5 1, 3) := by decide +kernel
theorem dX11_chain_142 : decode cX11_chain 142 = .ok (.goto (-65), 3) := by decide +kernel
theorem dX11_chain_145 : decode cX11_chain 145 = .ok (.iconst 0, 1) := by decide +kernel
theorem dX11_chain_146 : decode cX11_chain 146 = .ok (.istore 5, 2) := by decide +kernel
theorem dX11_chain_148 : decode cX11_chain 148 = .ok (.iload 5, 2) := by decide +kernel
theorem dX11_chain_150 : decode cX11_chain 150 = .ok (.bipush 24, 2) := by decide +kernel
theorem dX11_chain_152 : decode cX11_chain 152 = .ok (.if_icmp .ge 17, 3) := by decide +kernel
theorem dX11_chain_155 : decode cX11_chain 155 = .ok (.aload_n 0, 1) := by decide +kernel
theorem dX11_chain_156 : decode cX11_chain 156 = .ok (.getfield 67, 3) := by decide +kernel
theorem dX11_chain_159 : decode cX11_chain 159 = .ok (.iload 5, 2) := by decide +kernel
theorem dX11_chain_161 : decode cX11_chain 161 = .ok (.iconst 0, 1) := by decide +kernel
theorem dX11_chain_162 : decode cX11_chain 162 = .ok (.bastore, 1) := by decide +kernel
theorem dX11_chain_163 : decode cX11_chain 163 = .ok (.iinc 5 1, 3) := by decide +kernel
theorem dX11_chain_166 : decode cX11_chain 166 = .ok (.goto (-18), 3) := by decide +kernel
theorem dX11_chain_169 : decode cX11_chain 169 = .ok (.aload_n 0, 1) := by decide +kernel
theorem dX11_chain_170 : decode cX11_chain 170 = .ok (.iload_n 3, 1) := by decide +kernel
theorem dX11_chain_171 : decode cX11_chain 171 = .ok (.iconst 1, 1) := by decide +kernel
theorem dX11_chain_172 : decode cX11_chain 172 = .ok (.iconst 0, 1) := by decide +kernel
theorem dX11_chain_173 : decode cX11_chain 173 = .ok (.invokevirtual 264, 3) := by decide +kernel
theorem dX11_chain_176 : decode cX11_chain 176 = .ok (.ifCond .eq 8, 3) := by decide +kernel
theorem dX11_chain_179 : decode cX11_chain 179 = .ok (.iload 4, 2) := by decide +kernel
theorem dX11_chain_181 : decode cX11_chain 181 = .ok (.goto 4, 3) := by decide +kernel
theorem dX11_chain_184 : decode cX11_chain 184 = .ok (.iconst 0, 1) := by decide +kernel
theorem dX11_chain_185 : decode cX11_chain 185 = .ok (.ireturn, 1) := by decide +kernel
theorem dX11_ring_0 : decode cX11_ring 0 = .ok (.aload_n 0, 1) := by decide +kernel
theorem dX11_ring_1 : decode cX11_ring 1 = .ok (.iconst 0, 1) := by decide +kernel
theorem dX11_ring_2 : decode cX11_ring 2 = .ok (.putfield 1, 3) := by decide +kernel
theorem dX11_ring_5 : decode cX11_ring 5 = .ok (.aload_n 0, 1) := by decide +kernel
theorem dX11_ring_6 : decode cX11_ring 6 = .ok (.iload_n 1, 1) := by decide +kernel
theorem dX11_ring_7 : decode cX11_ring 7 = .ok (.i2l, 1) := by decide +kernel
theorem dX11_ring_8 : decode cX11_ring 8 = .ok (.lconst 0, 1) := by decide +kernel
theorem dX11_ring_9 : decode cX11_ring 9 = .ok (.ldc2_w 394, 3) := by decide +kernel
theorem dX11_ring_12 : decode cX11_ring 12 = .ok (.invokestatic 164, 3) := by decide +kernel
theorem dX11_ring_15 : decode cX11_ring 15 = .ok (.iconst 1, 1) := by decide +kernel
theorem dX11_ring_16 : decode cX11_ring 16 = .ok (.iconst 1, 1) := by decide +kernel
theorem dX11_ring_17 : decode cX11_ring 17 = .ok (.invokevirtual 264, 3) := by decide +kernel
theorem dX11_ring_20 : decode cX11_ring 20 = .ok (.ifCond .ne 5, 3) := by decide +kernel
theorem dX11_ring_23 : decode cX11_ring 23 = .ok (.iconst 0, 1) := by decide +kernel
theorem dX11_ring_24 : decode cX11_ring 24 = .ok (.ireturn, 1) := by decide +kernel
theorem dX11_ring_25 : decode cX11_ring 25 = .ok (.aload_n 0, 1) := by decide +kernel
theorem dX11_ring_26 : decode cX11_ring 26 = .ok (.invokevirtual 345, 3) := by decide +kernel
theorem dX11_ring_29 : decode cX11_ring 29 = .ok (.aload_n 0, 1) := by decide +kernel
theorem dX11_ring_30 : decode cX11_ring 30 = .ok (.invokevirtual 348, 3) := by decide +kernel
theorem dX11_ring_33 : decode cX11_ring 33 = .ok (.ifCond .ne 5, 3) := by decide +kernel
theorem dX11_ring_36 : decode cX11_ring 36 = .ok (.iconst (-1), 1) := by decide +kernel
theorem dX11_ring_37 : decode cX11_ring 37 = .ok (.ireturn, 1) := by decide +kernel
theorem dX11_ring_38 : decode cX11_ring 38 = .ok (.iload_n 1, 1) := by decide +kernel
theorem dX11_ring_39 : decode cX11_ring 39 = .ok (.ifCond .ne 10, 3) := by decide +kernel
theorem dX11_ring_42 : decode cX11_ring 42 = .ok (.aload_n 0, 1) := by decide +kernel
theorem dX11_ring_43 : decode cX11_ring 43 = .ok (.getfield 308, 3) := by decide +kernel
theorem dX11_ring_46 : decode cX11_ring 46 = .ok (.goto 37, 3) := by decide +kernel
theorem dX11_ring_49 : decode cX11_ring 49 = .ok (.iload_n 1, 1) := by decide +kernel
theorem dX11_ring_50 : decode cX11_ring 50 = .ok (.iconst 1, 1) := by decide +kernel
theorem dX11_ring_51 : decode cX11_ring 51 = .ok (.if_icmp .ne 10, 3) := by decide +kernel
theorem dX11_ring_54 : decode cX11_ring 54 = .ok (.aload_n 0, 1) := by decide +kernel
theorem dX11_ring_55 : decode cX11_ring 55 = .ok (.invokevirtual 351, 3) := by decide +kernel
theorem dX11_ring_58 : decode cX11_ring 58 = .ok (.goto 25, 3) := by decide +kernel
theorem dX11_ring_61 : decode cX11_ring 61 = .ok (.iload_n 1, 1) := by decide +kernel
theorem dX11_ring_62 : decode cX11_ring 62 = .ok (.iconst 2, 1) := by decide +kernel
theorem dX11_ring_63 : decode cX11_ring 63 = .ok (.isub, 1) := by decide +kernel
theorem dX11_ring_64 : decode cX11_ring 64 = .ok (.aload_n 0, 1) := by decide +kernel
theorem dX11_ring_65 : decode cX11_ring 65 = .ok (.getfield 308, 3) := by decide +kernel
theorem dX11_ring_68 : decode cX11_ring 68 = .ok (.if_icmp .ge 14, 3) := by decide +kernel
theorem dX11_ring_71 : decode cX11_ring 71 = .ok (.aload_n 0, 1) := by decide +kernel
theorem dX11_ring_72 : decode cX11_ring 72 = .ok (.getfield 49, 3) := by decide +kernel
theorem dX11_ring_75 : decode cX11_ring 75 = .ok (.iload_n 1, 1) := by decide +kernel
theorem dX11_ring_76 : decode cX11_ring 76 = .ok (.iconst 2, 1) := by decide +kernel
theorem dX11_ring_77 : decode cX11_ring 77 = .ok (.isub, 1) := by decide +kernel
theorem dX11_ring_78 : decode cX11_ring 78 = .ok (.iaload, 1) := by decide +kernel
theorem dX11_ring_79 : decode cX11_ring 79 = .ok (.goto 4, 3) := by decide +kernel
theorem dX11_ring_82 : decode cX11_ring 82 = .ok (.iconst (-1), 1) := by decide +kernel
theorem dX11_ring_83 : decode cX11_ring 83 = .ok (.ireturn, 1) := by decide +kernel
theorem dX11_edge_0 : decode cX11_edge 0 = .ok (.aload_n 0, 1) := by decide +kernel
theorem dX11_edge_1 : decode cX11_edge 1 = .ok (.getfield 71, 3) := by decide +kernel
theorem dX11_edge_4 : decode cX11_edge 4 = .ok (.aload_n 0, 1) := by decide +kernel
theorem dX11_edge_5 : decode cX11_edge 5 = .ok (.getfield 396, 3) := by decide +kernel
theorem dX11_edge_8 : decode cX11_edge 8 = .ok (.iload_n 1, 1) := by decide +kernel
theorem dX11_edge_9 : decode cX11_edge 9 = .ok (.iastore, 1) := by decide +kernel
theorem dX11_edge_10 : decode cX11_edge 10 = .ok (.aload_n 0, 1) := by decide +kernel
theorem dX11_edge_11 : decode cX11_edge 11 = .ok (.getfield 74, 3) := by decide +kernel
theorem dX11_edge_14 : decode cX11_edge 14 = .ok (.aload_n 0, 1) := by decide +kernel
theorem dX11_edge_15 : decode cX11_edge 15 = .ok (.getfield 396, 3) := by decide +kernel
theorem dX11_edge_18 : decode cX11_edge 18 = .ok (.iload_n 2, 1) := by decide +kernel
theorem dX11_edge_19 : decode cX11_edge 19 = .ok (.iastore, 1) := by decide +kernel
theorem dX11_edge_20 : decode cX11_edge 20 = .ok (.aload_n 0, 1) := by decide +kernel
theorem dX11_edge_21 : decode cX11_edge 21 = .ok (.getfield 80, 3) := by decide +kernel
theorem dX11_edge_24 : decode cX11_edge 24 = .ok (.aload_n 0, 1) := by decide +kernel
theorem dX11_edge_25 : decode cX11_edge 25 = .ok (.getfield 396, 3) := by decide +kernel
theorem dX11_edge_28 : decode cX11_edge 28 = .ok (.lload_n 3, 1) := by decide +kernel
theorem dX11_edge_29 : decode cX11_edge 29 = .ok (.lastore, 1) := by decide +kernel
theorem dX11_edge_30 : decode cX11_edge 30 = .ok (.aload_n 0, 1) := by decide +kernel
theorem dX11_edge_31 : decode cX11_edge 31 = .ok (.getfield 83, 3) := by decide +kernel
theorem dX11_edge_34 : decode cX11_edge 34 = .ok (.aload_n 0, 1) := by decide +kernel
theorem dX11_edge_35 : decode cX11_edge 35 = .ok (.getfield 396, 3) := by decide +kernel
theorem dX11_edge_38 : decode cX11_edge 38 = .ok (.lconst 0, 1) := by decide +kernel
theorem dX11_edge_39 : decode cX11_edge 39 = .ok (.lastore, 1) := by decide +kernel
theorem dX11_edge_40 : decode cX11_edge 40 = .ok (.aload_n 0, 1) := by decide +kernel
theorem dX11_edge_41 : decode cX11_edge 41 = .ok (.getfield 86, 3) := by decide +kernel
theorem dX11_edge_44 : decode cX11_edge 44 = .ok (.aload_n 0, 1) := by decide +kernel
theorem dX11_edge_45 : decode cX11_edge 45 = .ok (.getfield 396, 3) := by decide +kernel
theorem dX11_edge_48 : decode cX11_edge 48 = .ok (.lload 5, 2) := by decide +kernel
theorem dX11_edge_50 : decode cX11_edge 50 = .ok (.lastore, 1) := by decide +kernel
theorem dX11_edge_51 : decode cX11_edge 51 = .ok (.aload_n 0, 1) := by decide +kernel
theorem dX11_edge_52 : decode cX11_edge 52 = .ok (.dup, 1) := by decide +kernel
theorem dX11_edge_53 : decode cX11_edge 53 = .ok (.getfield 396, 3) := by decide +kernel
theorem dX11_edge_56 : decode cX11_edge 56 = .ok (.iconst 1, 1) := by decide +kernel
theorem dX11_edge_57 : decode cX11_edge 57 = .ok (.iadd, 1) := by decide +kernel
theorem dX11_edge_58 : decode cX11_edge 58 = .ok (.putfield 396, 3) := by decide +kernel
theorem dX11_edge_61 : decode cX11_edge 61 = .ok (.return_, 1) := by decide +kernel
theorem dX11_laysNet_0 : decode cX11_laysNet 0 = .ok (.aload_n 0, 1) := by decide +kernel
theorem dX11_laysNet_1 : decode cX11_laysNet 1 = .ok (.iconst 0, 1) := by decide +kernel
theorem dX11_laysNet_2 : decode cX11_laysNet 2 = .ok (.putfield 396, 3) := by decide +kernel
theorem dX11_laysNet_5 : decode cX11_laysNet 5 = .ok (.iconst 0, 1) := by decide +kernel
theorem dX11_laysNet_6 : decode cX11_laysNet 6 = .ok (.istore_n 2, 1) := by decide +kernel
theorem dX11_laysNet_7 : decode cX11_laysNet 7 = .ok (.iload_n 2, 1) := by decide +kernel
theorem dX11_laysNet_8 : decode cX11_laysNet 8 = .ok (.aload_n 0, 1) := by decide +kernel
theorem dX11_laysNet_9 : decode cX11_laysNet 9 = .ok (.invokevirtual 278, 3) := by decide +kernel
theorem dX11_laysNet_12 : decode cX11_laysNet 12 = .ok (.if_icmp .ge 59, 3) := by decide +kernel
theorem dX11_laysNet_15 : decode cX11_laysNet 15 = .ok (.aload_n 0, 1) := by decide +kernel
theorem dX11_laysNet_16 : decode cX11_laysNet 16 = .ok (.aload_n 0, 1) := by decide +kernel
theorem dX11_laysNet_17 : decode cX11_laysNet 17 = .ok (.iload_n 2, 1) := by decide +kernel
theorem dX11_laysNet_18 : decode cX11_laysNet 18 = .ok (.iconst 0, 1) := by decide +kernel
theorem dX11_laysNet_19 : decode cX11_laysNet 19 = .ok (.invokevirtual 289, 3) := by decide +kernel
theorem dX11_laysNet_22 : decode cX11_laysNet 22 = .ok (.aload_n 0, 1) := by decide +kernel
theorem dX11_laysNet_23 : decode cX11_laysNet 23 = .ok (.iload_n 2, 1) := by decide +kernel
theorem dX11_laysNet_24 : decode cX11_laysNet 24 = .ok (.iconst 1, 1) := by decide +kernel
theorem dX11_laysNet_25 : decode cX11_laysNet 25 = .ok (.invokevirtual 289, 3) := by decide +kernel
theorem dX11_laysNet_28 : decode cX11_laysNet 28 = .ok (.aload_n 0, 1) := by decide +kernel
theorem dX11_laysNet_29 : decode cX11_laysNet 29 = .ok (.iload_n 2, 1) := by decide +kernel
theorem dX11_laysNet_30 : decode cX11_laysNet 30 = .ok (.invokevirtual 305, 3) := by decide +kernel
theorem dX11_laysNet_33 : decode cX11_laysNet 33 = .ok (.ifCond .eq 13, 3) := by decide +kernel
theorem dX11_laysNet_36 : decode cX11_laysNet 36 = .ok (.aload_n 0, 1) := by decide +kernel
theorem dX11_laysNet_37 : decode cX11_laysNet 37 = .ok (.iload_n 2, 1) := by decide +kernel
theorem dX11_laysNet_38 : decode cX11_laysNet 38 = .ok (.iconst 5, 1) := by decide +kernel
theorem dX11_laysNet_39 : decode cX11_laysNet 39 = .ok (.invokevirtual 289, 3) := by decide +kernel
theorem dX11_laysNet_42 : decode cX11_laysNet 42 = .ok (.i2l, 1) := by decide +kernel
theorem dX11_laysNet_43 : decode cX11_laysNet 43 = .ok (.goto 4, 3) := by decide +kernel
theorem dX11_laysNet_46 : decode cX11_laysNet 46 = .ok (.lconst 0, 1) := by decide +kernel
theorem dX11_laysNet_47 : decode cX11_laysNet 47 = .ok (.iload_n 1, 1) := by decide +kernel
theorem dX11_laysNet_48 : decode cX11_laysNet 48 = .ok (.ifCond .eq 13, 3) := by decide +kernel
theorem dX11_laysNet_51 : decode cX11_laysNet 51 = .ok (.aload_n 0, 1) := by decide +kernel
theorem dX11_laysNet_52 : decode cX11_laysNet 52 = .ok (.iload_n 2, 1) := by decide +kernel
theorem dX11_laysNet_53 : decode cX11_laysNet 53 = .ok (.iconst 3, 1) := by decide +kernel
theorem dX11_laysNet_54 : decode cX11_laysNet 54 = .ok (.invokevirtual 289, 3) := by decide +kernel
theorem dX11_laysNet_57 : decode cX11_laysNet 57 = .ok (.i2l, 1) := by decide +kernel
theorem dX11_laysNet_58 : decode cX11_laysNet 58 = .ok (.goto 4, 3) := by decide +kernel
theorem dX11_laysNet_61 : decode cX11_laysNet 61 = .ok (.lconst 1, 1) := by decide +kernel
theorem dX11_laysNet_62 : decode cX11_laysNet 62 = .ok (.invokevirtual 399, 3) := by decide +kernel
theorem dX11_laysNet_65 : decode cX11_laysNet 65 = .ok (.iinc 2 1, 3) := by decide +kernel
theorem dX11_laysNet_68 : decode cX11_laysNet 68 = .ok (.goto (-61), 3) := by decide +kernel
theorem dX11_laysNet_71 : decode cX11_laysNet 71 = .ok (.iconst 0, 1) := by decide +kernel
theorem dX11_laysNet_72 : decode cX11_laysNet 72 = .ok (.istore_n 2, 1) := by decide +kernel
theorem dX11_laysNet_73 : decode cX11_laysNet 73 = .ok (.iload_n 2, 1) := by decide +kernel
theorem dX11_laysNet_74 : decode cX11_laysNet 74 = .ok (.aload_n 0, 1) := by decide +kernel
theorem dX11_laysNet_75 : decode cX11_laysNet 75 = .ok (.invokevirtual 281, 3) := by decide +kernel
theorem dX11_laysNet_78 : decode cX11_laysNet 78 = .ok (.if_icmp .ge 42, 3) := by decide +kernel
theorem dX11_laysNet_81 : decode cX11_laysNet 81 = .ok (.aload_n 0, 1) := by decide +kernel
theorem dX11_laysNet_82 : decode cX11_laysNet 82 = .ok (.bipush 8, 2) := by decide +kernel
theorem dX11_laysNet_84 : decode cX11_laysNet 84 = .ok (.iload_n 2, 1) := by decide +kernel
theorem dX11_laysNet_85 : decode cX11_laysNet 85 = .ok (.aload_n 0, 1) := by decide +kernel
theorem dX11_laysNet_86 : decode cX11_laysNet 86 = .ok (.getfield 17, 3) := by decide +kernel
theorem dX11_laysNet_89 : decode cX11_laysNet 89 = .ok (.bipush 9, 2) := by decide +kernel
theorem dX11_laysNet_91 : decode cX11_laysNet 91 = .ok (.bipush 6, 2) := by decide +kernel
theorem dX11_laysNet_93 : decode cX11_laysNet 93 = .ok (.iload_n 2, 1) := by decide +kernel
theorem dX11_laysNet_94 : decode cX11_laysNet 94 = .ok (.imul, 1) := by decide +kernel
theorem dX11_laysNet_95 : decode cX11_laysNet 95 = .ok (.iadd, 1) := by decide +kernel
theorem dX11_laysNet_96 : decode cX11_laysNet 96 = .ok (.iconst 0, 1) := by decide +kernel
theorem dX11_laysNet_97 : decode cX11_laysNet 97 = .ok (.iadd, 1) := by decide +kernel
theorem dX11_laysNet_98 : decode cX11_laysNet 98 = .ok (.laload, 1) := by decide +kernel
theorem dX11_laysNet_99 : decode cX11_laysNet 99 = .ok (.lconst 0, 1) := by decide +kernel
theorem dX11_laysNet_100 : decode cX11_laysNet 100 = .ok (.invokevirtual 399, 3) := by decide +kernel
theorem dX11_laysNet_103 : decode cX11_laysNet 103 = .ok (.aload_n 0, 1) := by decide +kernel
theorem dX11_laysNet_104 : decode cX11_laysNet 104 = .ok (.iload_n 2, 1) := by decide +kernel
theorem dX11_laysNet_105 : decode cX11_laysNet 105 = .ok (.bipush 8, 2) := by decide +kernel
theorem dX11_laysNet_107 : decode cX11_laysNet 107 = .ok (.ldc2_w 403, 3) := by decide +kernel
theorem dX11_laysNet_110 : decode cX11_laysNet 110 = .ok (.lconst 0, 1) := by decide +kernel
theorem dX11_laysNet_111 : decode cX11_laysNet 111 = .ok (.invokevirtual 399, 3) := by decide +kernel
theorem dX11_laysNet_114 : decode cX11_laysNet 114 = .ok (.iinc 2 1, 3) := by decide +kernel
theorem dX11_laysNet_117 : decode cX11_laysNet 117 = .ok (.goto (-44), 3) := by decide +kernel
theorem dX11_laysNet_120 : decode cX11_laysNet 120 = .ok (.return_, 1) := by decide +kernel
theorem dX11_relaxes_0 : decode cX11_relaxes 0 = .ok (.iload_n 2, 1) := by decide +kernel
theorem dX11_relaxes_1 : decode cX11_relaxes 1 = .ok (.ifCond .eq 12, 3) := by decide +kernel
theorem dX11_relaxes_4 : decode cX11_relaxes 4 = .ok (.aload_n 0, 1) := by decide +kernel
theorem dX11_relaxes_5 : decode cX11_relaxes 5 = .ok (.getfield 83, 3) := by decide +kernel
theorem dX11_relaxes_8 : decode cX11_relaxes 8 = .ok (.iload_n 1, 1) := by decide +kernel
theorem dX11_relaxes_9 : decode cX11_relaxes 9 = .ok (.laload, 1) := by decide +kernel
theorem dX11_relaxes_10 : decode cX11_relaxes 10 = .ok (.goto 16, 3) := by decide +kernel
theorem dX11_relaxes_13 : decode cX11_relaxes 13 = .ok (.aload_n 0, 1) := by decide +kernel
theorem dX11_relaxes_14 : decode cX11_relaxes 14 = .ok (.getfield 80, 3) := by decide +kernel
theorem dX11_relaxes_17 : decode cX11_relaxes 17 = .ok (.iload_n 1, 1) := by decide +kernel
theorem dX11_relaxes_18 : decode cX11_relaxes 18 = .ok (.laload, 1) := by decide +kernel
theorem dX11_relaxes_19 : decode cX11_relaxes 19 = .ok (.aload_n 0, 1) := by decide +kernel
theorem dX11_relaxes_20 : decode cX11_relaxes 20 = .ok (.getfield 83, 3) := by decide +kernel
theorem dX11_relaxes_23 : decode cX11_relaxes 23 = .ok (.iload_n 1, 1) := by decide +kernel
theorem dX11_relaxes_24 : decode cX11_relaxes 24 = .ok (.laload, 1) := by decide +kernel
theorem dX11_relaxes_25 : decode cX11_relaxes 25 = .ok (.lsub, 1) := by decide +kernel
theorem dX11_relaxes_26 : decode cX11_relaxes 26 = .ok (.lstore 4, 2) := by decide +kernel
theorem dX11_relaxes_28 : decode cX11_relaxes 28 = .ok (.iload_n 2, 1) := by decide +kernel
theorem dX11_relaxes_29 : decode cX11_relaxes 29 = .ok (.ifCond .eq 12, 3) := by decide +kernel
theorem dX11_relaxes_32 : decode cX11_relaxes 32 = .ok (.aload_n 0, 1) := by decide +kernel
theorem dX11_relaxes_33 : decode cX11_relaxes 33 = .ok (.getfield 74, 3) := by decide +kernel
theorem dX11_relaxes_36 : decode cX11_relaxes 36 = .ok (.iload_n 1, 1) := by decide +kernel
theorem dX11_relaxes_37 : decode cX11_relaxes 37 = .ok (.iaload, 1) := by decide +kernel
theorem dX11_relaxes_38 : decode cX11_relaxes 38 = .ok (.goto 9, 3) := by decide +kernel
theorem dX11_relaxes_41 : decode cX11_relaxes 41 = .ok (.aload_n 0, 1) := by decide +kernel
theorem dX11_relaxes_42 : decode cX11_relaxes 42 = .ok (.getfield 71, 3) := by decide +kernel
theorem dX11_relaxes_45 : decode cX11_relaxes 45 = .ok (.iload_n 1, 1) := by decide +kernel
