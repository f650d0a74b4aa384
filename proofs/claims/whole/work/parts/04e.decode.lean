theorem dX11_isOnce_48 : decode cX11_isOnce 48 = .ok (.iadd, 1) := by decide +kernel
theorem dX11_isOnce_49 : decode cX11_isOnce 49 = .ok (.putfield 112, 3) := by decide +kernel
theorem dX11_isOnce_52 : decode cX11_isOnce 52 = .ok (.aload_n 0, 1) := by decide +kernel
theorem dX11_isOnce_53 : decode cX11_isOnce 53 = .ok (.iload_n 3, 1) := by decide +kernel
theorem dX11_isOnce_54 : decode cX11_isOnce 54 = .ok (.i2l, 1) := by decide +kernel
theorem dX11_isOnce_55 : decode cX11_isOnce 55 = .ok (.iload 4, 2) := by decide +kernel
theorem dX11_isOnce_57 : decode cX11_isOnce 57 = .ok (.i2l, 1) := by decide +kernel
theorem dX11_isOnce_58 : decode cX11_isOnce 58 = .ok (.invokevirtual 201, 3) := by decide +kernel
theorem dX11_isOnce_61 : decode cX11_isOnce 61 = .ok (.lstore 5, 2) := by decide +kernel
theorem dX11_isOnce_63 : decode cX11_isOnce 63 = .ok (.aload_n 0, 1) := by decide +kernel
theorem dX11_isOnce_64 : decode cX11_isOnce 64 = .ok (.getfield 106, 3) := by decide +kernel
theorem dX11_isOnce_67 : decode cX11_isOnce 67 = .ok (.ifCond .ne 11, 3) := by decide +kernel
theorem dX11_isOnce_70 : decode cX11_isOnce 70 = .ok (.aload_n 0, 1) := by decide +kernel
theorem dX11_isOnce_71 : decode cX11_isOnce 71 = .ok (.getfield 21, 3) := by decide +kernel
theorem dX11_isOnce_74 : decode cX11_isOnce 74 = .ok (.iload_n 2, 1) := by decide +kernel
theorem dX11_isOnce_75 : decode cX11_isOnce 75 = .ok (.lload 5, 2) := by decide +kernel
theorem dX11_isOnce_77 : decode cX11_isOnce 77 = .ok (.lastore, 1) := by decide +kernel
theorem dX11_isOnce_78 : decode cX11_isOnce 78 = .ok (.iconst 1, 1) := by decide +kernel
theorem dX11_isOnce_79 : decode cX11_isOnce 79 = .ok (.ireturn, 1) := by decide +kernel
theorem dX11_dealerRead_0 : decode cX11_dealerRead 0 = .ok (.aload_n 0, 1) := by decide +kernel
theorem dX11_dealerRead_1 : decode cX11_dealerRead 1 = .ok (.getfield 21, 3) := by decide +kernel
theorem dX11_dealerRead_4 : decode cX11_dealerRead 4 = .ok (.iconst 0, 1) := by decide +kernel
theorem dX11_dealerRead_5 : decode cX11_dealerRead 5 = .ok (.laload, 1) := by decide +kernel
theorem dX11_dealerRead_6 : decode cX11_dealerRead 6 = .ok (.ldc2_w 227, 3) := by decide +kernel
theorem dX11_dealerRead_9 : decode cX11_dealerRead 9 = .ok (.lcmp, 1) := by decide +kernel
theorem dX11_dealerRead_10 : decode cX11_dealerRead 10 = .ok (.ifCond .ne 12, 3) := by decide +kernel
theorem dX11_dealerRead_13 : decode cX11_dealerRead 13 = .ok (.aload_n 0, 1) := by decide +kernel
theorem dX11_dealerRead_14 : decode cX11_dealerRead 14 = .ok (.iconst 3, 1) := by decide +kernel
theorem dX11_dealerRead_15 : decode cX11_dealerRead 15 = .ok (.aload_n 0, 1) := by decide +kernel
theorem dX11_dealerRead_16 : decode cX11_dealerRead 16 = .ok (.getfield 112, 3) := by decide +kernel
theorem dX11_dealerRead_19 : decode cX11_dealerRead 19 = .ok (.invokevirtual 142, 3) := by decide +kernel
theorem dX11_dealerRead_22 : decode cX11_dealerRead 22 = .ok (.aload_n 0, 1) := by decide +kernel
theorem dX11_dealerRead_23 : decode cX11_dealerRead 23 = .ok (.dup, 1) := by decide +kernel
theorem dX11_dealerRead_24 : decode cX11_dealerRead 24 = .ok (.getfield 112, 3) := by decide +kernel
theorem dX11_dealerRead_27 : decode cX11_dealerRead 27 = .ok (.bipush 6, 2) := by decide +kernel
theorem dX11_dealerRead_29 : decode cX11_dealerRead 29 = .ok (.iadd, 1) := by decide +kernel
theorem dX11_dealerRead_30 : decode cX11_dealerRead 30 = .ok (.putfield 112, 3) := by decide +kernel
theorem dX11_dealerRead_33 : decode cX11_dealerRead 33 = .ok (.aload_n 0, 1) := by decide +kernel
theorem dX11_dealerRead_34 : decode cX11_dealerRead 34 = .ok (.lconst 0, 1) := by decide +kernel
theorem dX11_dealerRead_35 : decode cX11_dealerRead 35 = .ok (.ldc2_w 199, 3) := by decide +kernel
theorem dX11_dealerRead_38 : decode cX11_dealerRead 38 = .ok (.invokevirtual 201, 3) := by decide +kernel
theorem dX11_dealerRead_41 : decode cX11_dealerRead 41 = .ok (.lstore_n 1, 1) := by decide +kernel
theorem dX11_dealerRead_42 : decode cX11_dealerRead 42 = .ok (.aload_n 0, 1) := by decide +kernel
theorem dX11_dealerRead_43 : decode cX11_dealerRead 43 = .ok (.getfield 106, 3) := by decide +kernel
theorem dX11_dealerRead_46 : decode cX11_dealerRead 46 = .ok (.ifCond .le 4, 3) := by decide +kernel
theorem dX11_dealerRead_49 : decode cX11_dealerRead 49 = .ok (.return_, 1) := by decide +kernel
theorem dX11_dealerRead_50 : decode cX11_dealerRead 50 = .ok (.aload_n 0, 1) := by decide +kernel
theorem dX11_dealerRead_51 : decode cX11_dealerRead 51 = .ok (.getfield 21, 3) := by decide +kernel
theorem dX11_dealerRead_54 : decode cX11_dealerRead 54 = .ok (.bipush 9, 2) := by decide +kernel
theorem dX11_dealerRead_56 : decode cX11_dealerRead 56 = .ok (.bipush 6, 2) := by decide +kernel
theorem dX11_dealerRead_58 : decode cX11_dealerRead 58 = .ok (.aload_n 0, 1) := by decide +kernel
theorem dX11_dealerRead_59 : decode cX11_dealerRead 59 = .ok (.getfield 21, 3) := by decide +kernel
theorem dX11_dealerRead_62 : decode cX11_dealerRead 62 = .ok (.iconst 0, 1) := by decide +kernel
theorem dX11_dealerRead_63 : decode cX11_dealerRead 63 = .ok (.laload, 1) := by decide +kernel
theorem dX11_dealerRead_64 : decode cX11_dealerRead 64 = .ok (.l2i, 1) := by decide +kernel
theorem dX11_dealerRead_65 : decode cX11_dealerRead 65 = .ok (.imul, 1) := by decide +kernel
theorem dX11_dealerRead_66 : decode cX11_dealerRead 66 = .ok (.iadd, 1) := by decide +kernel
theorem dX11_dealerRead_67 : decode cX11_dealerRead 67 = .ok (.iconst 0, 1) := by decide +kernel
theorem dX11_dealerRead_68 : decode cX11_dealerRead 68 = .ok (.iadd, 1) := by decide +kernel
theorem dX11_dealerRead_69 : decode cX11_dealerRead 69 = .ok (.lload_n 1, 1) := by decide +kernel
theorem dX11_dealerRead_70 : decode cX11_dealerRead 70 = .ok (.lastore, 1) := by decide +kernel
theorem dX11_dealerRead_71 : decode cX11_dealerRead 71 = .ok (.aload_n 0, 1) := by decide +kernel
theorem dX11_dealerRead_72 : decode cX11_dealerRead 72 = .ok (.getfield 21, 3) := by decide +kernel
theorem dX11_dealerRead_75 : decode cX11_dealerRead 75 = .ok (.iconst 0, 1) := by decide +kernel
theorem dX11_dealerRead_76 : decode cX11_dealerRead 76 = .ok (.dup2, 1) := by decide +kernel
theorem dX11_dealerRead_77 : decode cX11_dealerRead 77 = .ok (.laload, 1) := by decide +kernel
theorem dX11_dealerRead_78 : decode cX11_dealerRead 78 = .ok (.lconst 1, 1) := by decide +kernel
theorem dX11_dealerRead_79 : decode cX11_dealerRead 79 = .ok (.ladd, 1) := by decide +kernel
theorem dX11_dealerRead_80 : decode cX11_dealerRead 80 = .ok (.lastore, 1) := by decide +kernel
theorem dX11_dealerRead_81 : decode cX11_dealerRead 81 = .ok (.return_, 1) := by decide +kernel
theorem dX11_saleRead_0 : decode cX11_saleRead 0 = .ok (.aload_n 0, 1) := by decide +kernel
theorem dX11_saleRead_1 : decode cX11_saleRead 1 = .ok (.getfield 21, 3) := by decide +kernel
theorem dX11_saleRead_4 : decode cX11_saleRead 4 = .ok (.iconst 1, 1) := by decide +kernel
theorem dX11_saleRead_5 : decode cX11_saleRead 5 = .ok (.laload, 1) := by decide +kernel
theorem dX11_saleRead_6 : decode cX11_saleRead 6 = .ok (.ldc2_w 229, 3) := by decide +kernel
theorem dX11_saleRead_9 : decode cX11_saleRead 9 = .ok (.lcmp, 1) := by decide +kernel
theorem dX11_saleRead_10 : decode cX11_saleRead 10 = .ok (.ifCond .ne 12, 3) := by decide +kernel
theorem dX11_saleRead_13 : decode cX11_saleRead 13 = .ok (.aload_n 0, 1) := by decide +kernel
theorem dX11_saleRead_14 : decode cX11_saleRead 14 = .ok (.iconst 3, 1) := by decide +kernel
theorem dX11_saleRead_15 : decode cX11_saleRead 15 = .ok (.aload_n 0, 1) := by decide +kernel
theorem dX11_saleRead_16 : decode cX11_saleRead 16 = .ok (.getfield 112, 3) := by decide +kernel
theorem dX11_saleRead_19 : decode cX11_saleRead 19 = .ok (.invokevirtual 142, 3) := by decide +kernel
theorem dX11_saleRead_22 : decode cX11_saleRead 22 = .ok (.aload_n 0, 1) := by decide +kernel
theorem dX11_saleRead_23 : decode cX11_saleRead 23 = .ok (.dup, 1) := by decide +kernel
theorem dX11_saleRead_24 : decode cX11_saleRead 24 = .ok (.getfield 112, 3) := by decide +kernel
theorem dX11_saleRead_27 : decode cX11_saleRead 27 = .ok (.iconst 4, 1) := by decide +kernel
theorem dX11_saleRead_28 : decode cX11_saleRead 28 = .ok (.iadd, 1) := by decide +kernel
theorem dX11_saleRead_29 : decode cX11_saleRead 29 = .ok (.putfield 112, 3) := by decide +kernel
theorem dX11_saleRead_32 : decode cX11_saleRead 32 = .ok (.bipush 57, 2) := by decide +kernel
theorem dX11_saleRead_34 : decode cX11_saleRead 34 = .ok (.bipush 9, 2) := by decide +kernel
theorem dX11_saleRead_36 : decode cX11_saleRead 36 = .ok (.aload_n 0, 1) := by decide +kernel
theorem dX11_saleRead_37 : decode cX11_saleRead 37 = .ok (.getfield 21, 3) := by decide +kernel
theorem dX11_saleRead_40 : decode cX11_saleRead 40 = .ok (.iconst 1, 1) := by decide +kernel
theorem dX11_saleRead_41 : decode cX11_saleRead 41 = .ok (.laload, 1) := by decide +kernel
theorem dX11_saleRead_42 : decode cX11_saleRead 42 = .ok (.l2i, 1) := by decide +kernel
theorem dX11_saleRead_43 : decode cX11_saleRead 43 = .ok (.imul, 1) := by decide +kernel
theorem dX11_saleRead_44 : decode cX11_saleRead 44 = .ok (.iadd, 1) := by decide +kernel
theorem dX11_saleRead_45 : decode cX11_saleRead 45 = .ok (.istore_n 1, 1) := by decide +kernel
theorem dX11_saleRead_46 : decode cX11_saleRead 46 = .ok (.aload_n 0, 1) := by decide +kernel
theorem dX11_saleRead_47 : decode cX11_saleRead 47 = .ok (.lconst 0, 1) := by decide +kernel
theorem dX11_saleRead_48 : decode cX11_saleRead 48 = .ok (.aload_n 0, 1) := by decide +kernel
theorem dX11_saleRead_49 : decode cX11_saleRead 49 = .ok (.getfield 21, 3) := by decide +kernel
theorem dX11_saleRead_52 : decode cX11_saleRead 52 = .ok (.iconst 0, 1) := by decide +kernel
theorem dX11_saleRead_53 : decode cX11_saleRead 53 = .ok (.laload, 1) := by decide +kernel
theorem dX11_saleRead_54 : decode cX11_saleRead 54 = .ok (.lconst 1, 1) := by decide +kernel
theorem dX11_saleRead_55 : decode cX11_saleRead 55 = .ok (.lsub, 1) := by decide +kernel
theorem dX11_saleRead_56 : decode cX11_saleRead 56 = .ok (.invokevirtual 201, 3) := by decide +kernel
theorem dX11_saleRead_59 : decode cX11_saleRead 59 = .ok (.lstore_n 2, 1) := by decide +kernel
theorem dX11_saleRead_60 : decode cX11_saleRead 60 = .ok (.aload_n 0, 1) := by decide +kernel
theorem dX11_saleRead_61 : decode cX11_saleRead 61 = .ok (.lconst 0, 1) := by decide +kernel
theorem dX11_saleRead_62 : decode cX11_saleRead 62 = .ok (.aload_n 0, 1) := by decide +kernel
theorem dX11_saleRead_63 : decode cX11_saleRead 63 = .ok (.getfield 21, 3) := by decide +kernel
theorem dX11_saleRead_66 : decode cX11_saleRead 66 = .ok (.iconst 0, 1) := by decide +kernel
theorem dX11_saleRead_67 : decode cX11_saleRead 67 = .ok (.laload, 1) := by decide +kernel
theorem dX11_saleRead_68 : decode cX11_saleRead 68 = .ok (.lconst 1, 1) := by decide +kernel
theorem dX11_saleRead_69 : decode cX11_saleRead 69 = .ok (.lsub, 1) := by decide +kernel
theorem dX11_saleRead_70 : decode cX11_saleRead 70 = .ok (.invokevirtual 201, 3) := by decide +kernel
theorem dX11_saleRead_73 : decode cX11_saleRead 73 = .ok (.lstore 4, 2) := by decide +kernel
theorem dX11_saleRead_75 : decode cX11_saleRead 75 = .ok (.aload_n 0, 1) := by decide +kernel
theorem dX11_saleRead_76 : decode cX11_saleRead 76 = .ok (.getfield 106, 3) := by decide +kernel
theorem dX11_saleRead_79 : decode cX11_saleRead 79 = .ok (.ifCond .ne 19, 3) := by decide +kernel
theorem dX11_saleRead_82 : decode cX11_saleRead 82 = .ok (.lload_n 2, 1) := by decide +kernel
theorem dX11_saleRead_83 : decode cX11_saleRead 83 = .ok (.lload 4, 2) := by decide +kernel
theorem dX11_saleRead_85 : decode cX11_saleRead 85 = .ok (.lcmp, 1) := by decide +kernel
theorem dX11_saleRead_86 : decode cX11_saleRead 86 = .ok (.ifCond .ne 12, 3) := by decide +kernel
theorem dX11_saleRead_89 : decode cX11_saleRead 89 = .ok (.aload_n 0, 1) := by decide +kernel
theorem dX11_saleRead_90 : decode cX11_saleRead 90 = .ok (.iconst 2, 1) := by decide +kernel
theorem dX11_saleRead_91 : decode cX11_saleRead 91 = .ok (.aload_n 0, 1) := by decide +kernel
theorem dX11_saleRead_92 : decode cX11_saleRead 92 = .ok (.getfield 149, 3) := by decide +kernel
theorem dX11_saleRead_95 : decode cX11_saleRead 95 = .ok (.invokevirtual 142, 3) := by decide +kernel
theorem dX11_saleRead_98 : decode cX11_saleRead 98 = .ok (.aload_n 0, 1) := by decide +kernel
theorem dX11_saleRead_99 : decode cX11_saleRead 99 = .ok (.lconst 1, 1) := by decide +kernel
theorem dX11_saleRead_100 : decode cX11_saleRead 100 = .ok (.ldc2_w 231, 3) := by decide +kernel
theorem dX11_saleRead_103 : decode cX11_saleRead 103 = .ok (.invokevirtual 201, 3) := by decide +kernel
theorem dX11_saleRead_106 : decode cX11_saleRead 106 = .ok (.lstore 6, 2) := by decide +kernel
theorem dX11_saleRead_108 : decode cX11_saleRead 108 = .ok (.aload_n 0, 1) := by decide +kernel
theorem dX11_saleRead_109 : decode cX11_saleRead 109 = .ok (.lconst 1, 1) := by decide +kernel
theorem dX11_saleRead_110 : decode cX11_saleRead 110 = .ok (.ldc2_w 233, 3) := by decide +kernel
theorem dX11_saleRead_113 : decode cX11_saleRead 113 = .ok (.invokevirtual 201, 3) := by decide +kernel
theorem dX11_saleRead_116 : decode cX11_saleRead 116 = .ok (.lstore 8, 2) := by decide +kernel
theorem dX11_saleRead_118 : decode cX11_saleRead 118 = .ok (.aload_n 0, 1) := by decide +kernel
theorem dX11_saleRead_119 : decode cX11_saleRead 119 = .ok (.lconst 0, 1) := by decide +kernel
theorem dX11_saleRead_120 : decode cX11_saleRead 120 = .ok (.ldc2_w 235, 3) := by decide +kernel
theorem dX11_saleRead_123 : decode cX11_saleRead 123 = .ok (.invokevirtual 201, 3) := by decide +kernel
theorem dX11_saleRead_126 : decode cX11_saleRead 126 = .ok (.lstore 10, 2) := by decide +kernel
theorem dX11_saleRead_128 : decode cX11_saleRead 128 = .ok (.aload_n 0, 1) := by decide +kernel
theorem dX11_saleRead_129 : decode cX11_saleRead 129 = .ok (.getfield 106, 3) := by decide +kernel
theorem dX11_saleRead_132 : decode cX11_saleRead 132 = .ok (.ifCond .le 4, 3) := by decide +kernel
theorem dX11_saleRead_135 : decode cX11_saleRead 135 = .ok (.return_, 1) := by decide +kernel
theorem dX11_saleRead_136 : decode cX11_saleRead 136 = .ok (.aload_n 0, 1) := by decide +kernel
theorem dX11_saleRead_137 : decode cX11_saleRead 137 = .ok (.getfield 21, 3) := by decide +kernel
theorem dX11_saleRead_140 : decode cX11_saleRead 140 = .ok (.iload_n 1, 1) := by decide +kernel
theorem dX11_saleRead_141 : decode cX11_saleRead 141 = .ok (.iconst 0, 1) := by decide +kernel
theorem dX11_saleRead_142 : decode cX11_saleRead 142 = .ok (.iadd, 1) := by decide +kernel
theorem dX11_saleRead_143 : decode cX11_saleRead 143 = .ok (.lload_n 2, 1) := by decide +kernel
theorem dX11_saleRead_144 : decode cX11_saleRead 144 = .ok (.lastore, 1) := by decide +kernel
theorem dX11_saleRead_145 : decode cX11_saleRead 145 = .ok (.aload_n 0, 1) := by decide +kernel
theorem dX11_saleRead_146 : decode cX11_saleRead 146 = .ok (.getfield 21, 3) := by decide +kernel
theorem dX11_saleRead_149 : decode cX11_saleRead 149 = .ok (.iload_n 1, 1) := by decide +kernel
theorem dX11_saleRead_150 : decode cX11_saleRead 150 = .ok (.iconst 1, 1) := by decide +kernel
theorem dX11_saleRead_151 : decode cX11_saleRead 151 = .ok (.iadd, 1) := by decide +kernel
theorem dX11_saleRead_152 : decode cX11_saleRead 152 = .ok (.lload 4, 2) := by decide +kernel
theorem dX11_saleRead_154 : decode cX11_saleRead 154 = .ok (.lastore, 1) := by decide +kernel
theorem dX11_saleRead_155 : decode cX11_saleRead 155 = .ok (.aload_n 0, 1) := by decide +kernel
theorem dX11_saleRead_156 : decode cX11_saleRead 156 = .ok (.getfield 21, 3) := by decide +kernel
theorem dX11_saleRead_159 : decode cX11_saleRead 159 = .ok (.iload_n 1, 1) := by decide +kernel
theorem dX11_saleRead_160 : decode cX11_saleRead 160 = .ok (.iconst 2, 1) := by decide +kernel
theorem dX11_saleRead_161 : decode cX11_saleRead 161 = .ok (.iadd, 1) := by decide +kernel
theorem dX11_saleRead_162 : decode cX11_saleRead 162 = .ok (.lload 6, 2) := by decide +kernel
theorem dX11_saleRead_164 : decode cX11_saleRead 164 = .ok (.lastore, 1) := by decide +kernel
theorem dX11_saleRead_165 : decode cX11_saleRead 165 = .ok (.aload_n 0, 1) := by decide +kernel
theorem dX11_saleRead_166 : decode cX11_saleRead 166 = .ok (.getfield 21, 3) := by decide +kernel
theorem dX11_saleRead_169 : decode cX11_saleRead 169 = .ok (.iload_n 1, 1) := by decide +kernel
theorem dX11_saleRead_170 : decode cX11_saleRead 170 = .ok (.iconst 5, 1) := by decide +kernel
theorem dX11_saleRead_171 : decode cX11_saleRead 171 = .ok (.iadd, 1) := by decide +kernel
theorem dX11_saleRead_172 : decode cX11_saleRead 172 = .ok (.lload 6, 2) := by decide +kernel
theorem dX11_saleRead_174 : decode cX11_saleRead 174 = .ok (.lastore, 1) := by decide +kernel
theorem dX11_saleRead_175 : decode cX11_saleRead 175 = .ok (.aload_n 0, 1) := by decide +kernel
theorem dX11_saleRead_176 : decode cX11_saleRead 176 = .ok (.getfield 21, 3) := by decide +kernel
theorem dX11_saleRead_179 : decode cX11_saleRead 179 = .ok (.iload_n 1, 1) := by decide +kernel
theorem dX11_saleRead_180 : decode cX11_saleRead 180 = .ok (.iconst 3, 1) := by decide +kernel
theorem dX11_saleRead_181 : decode cX11_saleRead 181 = .ok (.iadd, 1) := by decide +kernel
theorem dX11_saleRead_182 : decode cX11_saleRead 182 = .ok (.lload 8, 2) := by decide +kernel
theorem dX11_saleRead_184 : decode cX11_saleRead 184 = .ok (.lastore, 1) := by decide +kernel
theorem dX11_saleRead_185 : decode cX11_saleRead 185 = .ok (.aload_n 0, 1) := by decide +kernel
theorem dX11_saleRead_186 : decode cX11_saleRead 186 = .ok (.getfield 21, 3) := by decide +kernel
theorem dX11_saleRead_189 : decode cX11_saleRead 189 = .ok (.iload_n 1, 1) := by decide +kernel
theorem dX11_saleRead_190 : decode cX11_saleRead 190 = .ok (.iconst 4, 1) := by decide +kernel
theorem dX11_saleRead_191 : decode cX11_saleRead 191 = .ok (.iadd, 1) := by decide +kernel
theorem dX11_saleRead_192 : decode cX11_saleRead 192 = .ok (.lload 10, 2) := by decide +kernel
theorem dX11_saleRead_194 : decode cX11_saleRead 194 = .ok (.lastore, 1) := by decide +kernel
theorem dX11_saleRead_195 : decode cX11_saleRead 195 = .ok (.aload_n 0, 1) := by decide +kernel
theorem dX11_saleRead_196 : decode cX11_saleRead 196 = .ok (.getfield 21, 3) := by decide +kernel
theorem dX11_saleRead_199 : decode cX11_saleRead 199 = .ok (.iconst 1, 1) := by decide +kernel
theorem dX11_saleRead_200 : decode cX11_saleRead 200 = .ok (.dup2, 1) := by decide +kernel
theorem dX11_saleRead_201 : decode cX11_saleRead 201 = .ok (.laload, 1) := by decide +kernel
theorem dX11_saleRead_202 : decode cX11_saleRead 202 = .ok (.lconst 1, 1) := by decide +kernel
theorem dX11_saleRead_203 : decode cX11_saleRead 203 = .ok (.ladd, 1) := by decide +kernel
theorem dX11_saleRead_204 : decode cX11_saleRead 204 = .ok (.lastore, 1) := by decide +kernel
theorem dX11_saleRead_205 : decode cX11_saleRead 205 = .ok (.return_, 1) := by decide +kernel
theorem dX11_ruleRead_0 : decode cX11_ruleRead 0 = .ok (.aload_n 0, 1) := by decide +kernel
theorem dX11_ruleRead_1 : decode cX11_ruleRead 1 = .ok (.getfield 21, 3) := by decide +kernel
theorem dX11_ruleRead_4 : decode cX11_ruleRead 4 = .ok (.bipush 7, 2) := by decide +kernel
theorem dX11_ruleRead_6 : decode cX11_ruleRead 6 = .ok (.laload, 1) := by decide +kernel
theorem dX11_ruleRead_7 : decode cX11_ruleRead 7 = .ok (.lconst 0, 1) := by decide +kernel
theorem dX11_ruleRead_8 : decode cX11_ruleRead 8 = .ok (.lcmp, 1) := by decide +kernel
theorem dX11_ruleRead_9 : decode cX11_ruleRead 9 = .ok (.ifCond .le 12, 3) := by decide +kernel
theorem dX11_ruleRead_12 : decode cX11_ruleRead 12 = .ok (.aload_n 0, 1) := by decide +kernel
theorem dX11_ruleRead_13 : decode cX11_ruleRead 13 = .ok (.iconst 1, 1) := by decide +kernel
theorem dX11_ruleRead_14 : decode cX11_ruleRead 14 = .ok (.aload_n 0, 1) := by decide +kernel
theorem dX11_ruleRead_15 : decode cX11_ruleRead 15 = .ok (.getfield 112, 3) := by decide +kernel
theorem dX11_ruleRead_18 : decode cX11_ruleRead 18 = .ok (.invokevirtual 142, 3) := by decide +kernel
theorem dX11_ruleRead_21 : decode cX11_ruleRead 21 = .ok (.aload_n 0, 1) := by decide +kernel
theorem dX11_ruleRead_22 : decode cX11_ruleRead 22 = .ok (.dup, 1) := by decide +kernel
theorem dX11_ruleRead_23 : decode cX11_ruleRead 23 = .ok (.getfield 112, 3) := by decide +kernel
theorem dX11_ruleRead_26 : decode cX11_ruleRead 26 = .ok (.iconst 4, 1) := by decide +kernel
theorem dX11_ruleRead_27 : decode cX11_ruleRead 27 = .ok (.iadd, 1) := by decide +kernel
theorem dX11_ruleRead_28 : decode cX11_ruleRead 28 = .ok (.putfield 112, 3) := by decide +kernel
theorem dX11_ruleRead_31 : decode cX11_ruleRead 31 = .ok (.aload_n 0, 1) := by decide +kernel
theorem dX11_ruleRead_32 : decode cX11_ruleRead 32 = .ok (.iconst 0, 1) := by decide +kernel
theorem dX11_ruleRead_33 : decode cX11_ruleRead 33 = .ok (.putfield 196, 3) := by decide +kernel
theorem dX11_ruleRead_36 : decode cX11_ruleRead 36 = .ok (.aload_n 0, 1) := by decide +kernel
theorem dX11_ruleRead_37 : decode cX11_ruleRead 37 = .ok (.invokevirtual 208, 3) := by decide +kernel
theorem dX11_ruleRead_40 : decode cX11_ruleRead 40 = .ok (.return_, 1) := by decide +kernel
theorem dX11_line_0 : decode cX11_line 0 = .ok (.aload_n 0, 1) := by decide +kernel
theorem dX11_line_1 : decode cX11_line 1 = .ok (.ldc 237, 2) := by decide +kernel
theorem dX11_line_3 : decode cX11_line 3 = .ok (.invokevirtual 135, 3) := by decide +kernel
theorem dX11_line_6 : decode cX11_line 6 = .ok (.ifCond .eq 10, 3) := by decide +kernel
theorem dX11_line_9 : decode cX11_line 9 = .ok (.aload_n 0, 1) := by decide +kernel
theorem dX11_line_10 : decode cX11_line 10 = .ok (.invokevirtual 239, 3) := by decide +kernel
theorem dX11_line_13 : decode cX11_line 13 = .ok (.goto 102, 3) := by decide +kernel
theorem dX11_line_16 : decode cX11_line 16 = .ok (.aload_n 0, 1) := by decide +kernel
theorem dX11_line_17 : decode cX11_line 17 = .ok (.ldc 242, 2) := by decide +kernel
theorem dX11_line_19 : decode cX11_line 19 = .ok (.invokevirtual 135, 3) := by decide +kernel
theorem dX11_line_22 : decode cX11_line 22 = .ok (.ifCond .eq 10, 3) := by decide +kernel
theorem dX11_line_25 : decode cX11_line 25 = .ok (.aload_n 0, 1) := by decide +kernel
theorem dX11_line_26 : decode cX11_line 26 = .ok (.invokevirtual 244, 3) := by decide +kernel
theorem dX11_line_29 : decode cX11_line 29 = .ok (.goto 86, 3) := by decide +kernel
theorem dX11_line_32 : decode cX11_line 32 = .ok (.aload_n 0, 1) := by decide +kernel
theorem dX11_line_33 : decode cX11_line 33 = .ok (.ldc 247, 2) := by decide +kernel
theorem dX11_line_35 : decode cX11_line 35 = .ok (.invokevirtual 135, 3) := by decide +kernel
theorem dX11_line_38 : decode cX11_line 38 = .ok (.ifCond .eq 10, 3) := by decide +kernel
theorem dX11_line_41 : decode cX11_line 41 = .ok (.aload_n 0, 1) := by decide +kernel
theorem dX11_line_42 : decode cX11_line 42 = .ok (.invokevirtual 249, 3) := by decide +kernel
theorem dX11_line_45 : decode cX11_line 45 = .ok (.goto 70, 3) := by decide +kernel
theorem dX11_line_48 : decode cX11_line 48 = .ok (.aload_n 0, 1) := by decide +kernel
theorem dX11_line_49 : decode cX11_line 49 = .ok (.ldc 252, 2) := by decide +kernel
theorem dX11_line_51 : decode cX11_line 51 = .ok (.iconst 4, 1) := by decide +kernel
theorem dX11_line_52 : decode cX11_line 52 = .ok (.iconst 0, 1) := by decide +kernel
theorem dX11_line_53 : decode cX11_line 53 = .ok (.sipush 999, 3) := by decide +kernel
theorem dX11_line_56 : decode cX11_line 56 = .ok (.invokevirtual 254, 3) := by decide +kernel
theorem dX11_line_59 : decode cX11_line 59 = .ok (.ifCond .ne 56, 3) := by decide +kernel
theorem dX11_line_62 : decode cX11_line 62 = .ok (.aload_n 0, 1) := by decide +kernel
theorem dX11_line_63 : decode cX11_line 63 = .ok (.ldc_w 258, 3) := by decide +kernel
theorem dX11_line_66 : decode cX11_line 66 = .ok (.iconst 5, 1) := by decide +kernel
theorem dX11_line_67 : decode cX11_line 67 = .ok (.iconst 1, 1) := by decide +kernel
theorem dX11_line_68 : decode cX11_line 68 = .ok (.bipush 100, 2) := by decide +kernel
theorem dX11_line_70 : decode cX11_line 70 = .ok (.invokevirtual 254, 3) := by decide +kernel
theorem dX11_line_73 : decode cX11_line 73 = .ok (.ifCond .ne 42, 3) := by decide +kernel
theorem dX11_line_76 : decode cX11_line 76 = .ok (.aload_n 0, 1) := by decide +kernel
theorem dX11_line_77 : decode cX11_line 77 = .ok (.ldc_w 260, 3) := by decide +kernel
theorem dX11_line_80 : decode cX11_line 80 = .ok (.bipush 6, 2) := by decide +kernel
theorem dX11_line_82 : decode cX11_line 82 = .ok (.iconst 0, 1) := by decide +kernel
theorem dX11_line_83 : decode cX11_line 83 = .ok (.bipush 30, 2) := by decide +kernel
theorem dX11_line_85 : decode cX11_line 85 = .ok (.invokevirtual 254, 3) := by decide +kernel
theorem dX11_line_88 : decode cX11_line 88 = .ok (.ifCond .ne 27, 3) := by decide +kernel
theorem dX11_line_91 : decode cX11_line 91 = .ok (.aload_n 0, 1) := by decide +kernel
theorem dX11_line_92 : decode cX11_line 92 = .ok (.ldc_w 262, 3) := by decide +kernel
theorem dX11_line_95 : decode cX11_line 95 = .ok (.iconst 3, 1) := by decide +kernel
theorem dX11_line_96 : decode cX11_line 96 = .ok (.iconst 1, 1) := by decide +kernel
theorem dX11_line_97 : decode cX11_line 97 = .ok (.sipush 10000, 3) := by decide +kernel
theorem dX11_line_100 : decode cX11_line 100 = .ok (.invokevirtual 254, 3) := by decide +kernel
theorem dX11_line_103 : decode cX11_line 103 = .ok (.ifCond .ne 12, 3) := by decide +kernel
theorem dX11_line_106 : decode cX11_line 106 = .ok (.aload_n 0, 1) := by decide +kernel
theorem dX11_line_107 : decode cX11_line 107 = .ok (.iconst 1, 1) := by decide +kernel
theorem dX11_line_108 : decode cX11_line 108 = .ok (.aload_n 0, 1) := by decide +kernel
theorem dX11_line_109 : decode cX11_line 109 = .ok (.getfield 112, 3) := by decide +kernel
theorem dX11_line_112 : decode cX11_line 112 = .ok (.invokevirtual 142, 3) := by decide +kernel
theorem dX11_line_115 : decode cX11_line 115 = .ok (.aload_n 0, 1) := by decide +kernel
theorem dX11_line_116 : decode cX11_line 116 = .ok (.bipush 59, 2) := by decide +kernel
theorem dX11_line_118 : decode cX11_line 118 = .ok (.invokevirtual 211, 3) := by decide +kernel
theorem dX11_line_121 : decode cX11_line 121 = .ok (.return_, 1) := by decide +kernel
theorem dX11_plain_0 : decode cX11_plain 0 = .ok (.aload_n 0, 1) := by decide +kernel
theorem dX11_plain_1 : decode cX11_plain 1 = .ok (.getfield 21, 3) := by decide +kernel
theorem dX11_plain_4 : decode cX11_plain 4 = .ok (.iload_n 1, 1) := by decide +kernel
theorem dX11_plain_5 : decode cX11_plain 5 = .ok (.laload, 1) := by decide +kernel
theorem dX11_plain_6 : decode cX11_plain 6 = .ok (.ldc2_w 225, 3) := by decide +kernel
theorem dX11_plain_9 : decode cX11_plain 9 = .ok (.lcmp, 1) := by decide +kernel
theorem dX11_plain_10 : decode cX11_plain 10 = .ok (.ifCond .ne 10, 3) := by decide +kernel
theorem dX11_plain_13 : decode cX11_plain 13 = .ok (.aload_n 0, 1) := by decide +kernel
theorem dX11_plain_14 : decode cX11_plain 14 = .ok (.getfield 21, 3) := by decide +kernel
theorem dX11_plain_17 : decode cX11_plain 17 = .ok (.iload_n 1, 1) := by decide +kernel
theorem dX11_plain_18 : decode cX11_plain 18 = .ok (.lload_n 2, 1) := by decide +kernel
theorem dX11_plain_19 : decode cX11_plain 19 = .ok (.lastore, 1) := by decide +kernel
theorem dX11_plain_20 : decode cX11_plain 20 = .ok (.return_, 1) := by decide +kernel
theorem dX11_text_0 : decode cX11_text 0 = .ok (.aload_n 0, 1) := by decide +kernel
theorem dX11_text_1 : decode cX11_text 1 = .ok (.iconst 0, 1) := by decide +kernel
theorem dX11_text_2 : decode cX11_text 2 = .ok (.putfield 1, 3) := by decide +kernel
theorem dX11_text_5 : decode cX11_text 5 = .ok (.aload_n 0, 1) := by decide +kernel
theorem dX11_text_6 : decode cX11_text 6 = .ok (.iload_n 1, 1) := by decide +kernel
theorem dX11_text_7 : decode cX11_text 7 = .ok (.i2l, 1) := by decide +kernel
theorem dX11_text_8 : decode cX11_text 8 = .ok (.lconst 0, 1) := by decide +kernel
theorem dX11_text_9 : decode cX11_text 9 = .ok (.aload_n 0, 1) := by decide +kernel
theorem dX11_text_10 : decode cX11_text 10 = .ok (.getfield 99, 3) := by decide +kernel
theorem dX11_text_13 : decode cX11_text 13 = .ok (.i2l, 1) := by decide +kernel
theorem dX11_text_14 : decode cX11_text 14 = .ok (.invokestatic 164, 3) := by decide +kernel
theorem dX11_text_17 : decode cX11_text 17 = .ok (.iconst 1, 1) := by decide +kernel
theorem dX11_text_18 : decode cX11_text 18 = .ok (.iconst 1, 1) := by decide +kernel
theorem dX11_text_19 : decode cX11_text 19 = .ok (.invokevirtual 264, 3) := by decide +kernel
theorem dX11_text_22 : decode cX11_text 22 = .ok (.ifCond .ne 5, 3) := by decide +kernel
theorem dX11_text_25 : decode cX11_text 25 = .ok (.iconst 0, 1) := by decide +kernel
theorem dX11_text_26 : decode cX11_text 26 = .ok (.ireturn, 1) := by decide +kernel
theorem dX11_text_27 : decode cX11_text 27 = .ok (.iconst 0, 1) := by decide +kernel
theorem dX11_text_28 : decode cX11_text 28 = .ok (.istore_n 2, 1) := by decide +kernel
theorem dX11_text_29 : decode cX11_text 29 = .ok (.iload_n 2, 1) := by decide +kernel
theorem dX11_text_30 : decode cX11_text 30 = .ok (.iload_n 1, 1) := by decide +kernel
theorem dX11_text_31 : decode cX11_text 31 = .ok (.if_icmp .ge 21, 3) := by decide +kernel
theorem dX11_text_34 : decode cX11_text 34 = .ok (.aload_n 0, 1) := by decide +kernel
theorem dX11_text_35 : decode cX11_text 35 = .ok (.getfield 34, 3) := by decide +kernel
theorem dX11_text_38 : decode cX11_text 38 = .ok (.iload_n 2, 1) := by decide +kernel
theorem dX11_text_39 : decode cX11_text 39 = .ok (.aload_n 0, 1) := by decide +kernel
theorem dX11_text_40 : decode cX11_text 40 = .ok (.getfield 30, 3) := by decide +kernel
theorem dX11_text_43 : decode cX11_text 43 = .ok (.iload_n 2, 1) := by decide +kernel
theorem dX11_text_44 : decode cX11_text 44 = .ok (.baload, 1) := by decide +kernel
theorem dX11_text_45 : decode cX11_text 45 = .ok (.bastore, 1) := by decide +kernel
theorem dX11_text_46 : decode cX11_text 46 = .ok (.iinc 2 1, 3) := by decide +kernel
theorem dX11_text_49 : decode cX11_text 49 = .ok (.goto (-20), 3) := by decide +kernel
theorem dX11_text_52 : decode cX11_text 52 = .ok (.aload_n 0, 1) := by decide +kernel
theorem dX11_text_53 : decode cX11_text 53 = .ok (.iconst 0, 1) := by decide +kernel
theorem dX11_text_54 : decode cX11_text 54 = .ok (.putfield 99, 3) := by decide +kernel
theorem dX11_text_57 : decode cX11_text 57 = .ok (.aload_n 0, 1) := by decide +kernel
theorem dX11_text_58 : decode cX11_text 58 = .ok (.iload_n 1, 1) := by decide +kernel
theorem dX11_text_59 : decode cX11_text 59 = .ok (.putfield 115, 3) := by decide +kernel
theorem dX11_text_62 : decode cX11_text 62 = .ok (.aload_n 0, 1) := by decide +kernel
theorem dX11_text_63 : decode cX11_text 63 = .ok (.iconst 0, 1) := by decide +kernel
theorem dX11_text_64 : decode cX11_text 64 = .ok (.putfield 112, 3) := by decide +kernel
theorem dX11_text_67 : decode cX11_text 67 = .ok (.aload_n 0, 1) := by decide +kernel
theorem dX11_text_68 : decode cX11_text 68 = .ok (.iconst 0, 1) := by decide +kernel
theorem dX11_text_69 : decode cX11_text 69 = .ok (.putfield 106, 3) := by decide +kernel
theorem dX11_text_72 : decode cX11_text 72 = .ok (.iconst 0, 1) := by decide +kernel
theorem dX11_text_73 : decode cX11_text 73 = .ok (.istore_n 2, 1) := by decide +kernel
theorem dX11_text_74 : decode cX11_text 74 = .ok (.iload_n 2, 1) := by decide +kernel
theorem dX11_text_75 : decode cX11_text 75 = .ok (.sipush 773, 3) := by decide +kernel
theorem dX11_text_78 : decode cX11_text 78 = .ok (.if_icmp .ge 33, 3) := by decide +kernel
theorem dX11_text_81 : decode cX11_text 81 = .ok (.aload_n 0, 1) := by decide +kernel
theorem dX11_text_82 : decode cX11_text 82 = .ok (.getfield 21, 3) := by decide +kernel
theorem dX11_text_85 : decode cX11_text 85 = .ok (.iload_n 2, 1) := by decide +kernel
theorem dX11_text_86 : decode cX11_text 86 = .ok (.iload_n 2, 1) := by decide +kernel
theorem dX11_text_87 : decode cX11_text 87 = .ok (.iconst 3, 1) := by decide +kernel
theorem dX11_text_88 : decode cX11_text 88 = .ok (.if_icmp .lt 15, 3) := by decide +kernel
theorem dX11_text_91 : decode cX11_text 91 = .ok (.iload_n 2, 1) := by decide +kernel
theorem dX11_text_92 : decode cX11_text 92 = .ok (.bipush 6, 2) := by decide +kernel
theorem dX11_text_94 : decode cX11_text 94 = .ok (.if_icmp .gt 9, 3) := by decide +kernel
theorem dX11_text_97 : decode cX11_text 97 = .ok (.ldc2_w 225, 3) := by decide +kernel
theorem dX11_text_100 : decode cX11_text 100 = .ok (.goto 4, 3) := by decide +kernel
theorem dX11_text_103 : decode cX11_text 103 = .ok (.lconst 0, 1) := by decide +kernel
theorem dX11_text_104 : decode cX11_text 104 = .ok (.lastore, 1) := by decide +kernel
theorem dX11_text_105 : decode cX11_text 105 = .ok (.iinc 2 1, 3) := by decide +kernel
theorem dX11_text_108 : decode cX11_text 108 = .ok (.goto (-34), 3) := by decide +kernel
theorem dX11_text_111 : decode cX11_text 111 = .ok (.aload_n 0, 1) := by decide +kernel
theorem dX11_text_112 : decode cX11_text 112 = .ok (.getfield 106, 3) := by decide +kernel
theorem dX11_text_115 : decode cX11_text 115 = .ok (.ifCond .ne 28, 3) := by decide +kernel
theorem dX11_text_118 : decode cX11_text 118 = .ok (.aload_n 0, 1) := by decide +kernel
theorem dX11_text_119 : decode cX11_text 119 = .ok (.invokevirtual 118, 3) := by decide +kernel
theorem dX11_text_122 : decode cX11_text 122 = .ok (.ifCond .ne 14, 3) := by decide +kernel
theorem dX11_text_125 : decode cX11_text 125 = .ok (.aload_n 0, 1) := by decide +kernel
theorem dX11_text_126 : decode cX11_text 126 = .ok (.getfield 112, 3) := by decide +kernel
theorem dX11_text_129 : decode cX11_text 129 = .ok (.aload_n 0, 1) := by decide +kernel
theorem dX11_text_130 : decode cX11_text 130 = .ok (.getfield 115, 3) := by decide +kernel
theorem dX11_text_133 : decode cX11_text 133 = .ok (.if_icmp .ge 10, 3) := by decide +kernel
theorem dX11_text_136 : decode cX11_text 136 = .ok (.aload_n 0, 1) := by decide +kernel
theorem dX11_text_137 : decode cX11_text 137 = .ok (.invokevirtual 268, 3) := by decide +kernel
theorem dX11_text_140 : decode cX11_text 140 = .ok (.goto (-29), 3) := by decide +kernel
theorem dX11_text_143 : decode cX11_text 143 = .ok (.aload_n 0, 1) := by decide +kernel
theorem dX11_text_144 : decode cX11_text 144 = .ok (.aload_n 0, 1) := by decide +kernel
theorem dX11_text_145 : decode cX11_text 145 = .ok (.getfield 106, 3) := by decide +kernel
theorem dX11_text_148 : decode cX11_text 148 = .ok (.ifCond .le 10, 3) := by decide +kernel
theorem dX11_text_151 : decode cX11_text 151 = .ok (.aload_n 0, 1) := by decide +kernel
theorem dX11_text_152 : decode cX11_text 152 = .ok (.getfield 109, 3) := by decide +kernel
theorem dX11_text_155 : decode cX11_text 155 = .ok (.goto 4, 3) := by decide +kernel
theorem dX11_text_158 : decode cX11_text 158 = .ok (.iconst (-1), 1) := by decide +kernel
theorem dX11_text_159 : decode cX11_text 159 = .ok (.putfield 37, 3) := by decide +kernel
theorem dX11_text_162 : decode cX11_text 162 = .ok (.aload_n 0, 1) := by decide +kernel
theorem dX11_text_163 : decode cX11_text 163 = .ok (.getfield 106, 3) := by decide +kernel
theorem dX11_text_166 : decode cX11_text 166 = .ok (.ifCond .le 11, 3) := by decide +kernel
theorem dX11_text_169 : decode cX11_text 169 = .ok (.aload_n 0, 1) := by decide +kernel
theorem dX11_text_170 : decode cX11_text 170 = .ok (.getfield 106, 3) := by decide +kernel
theorem dX11_text_173 : decode cX11_text 173 = .ok (.bipush 10, 2) := by decide +kernel
theorem dX11_text_175 : decode cX11_text 175 = .ok (.isub, 1) := by decide +kernel
theorem dX11_text_176 : decode cX11_text 176 = .ok (.ireturn, 1) := by decide +kernel
theorem dX11_text_177 : decode cX11_text 177 = .ok (.aload_n 0, 1) := by decide +kernel
theorem dX11_text_178 : decode cX11_text 178 = .ok (.iconst 3, 1) := by decide +kernel
theorem dX11_text_179 : decode cX11_text 179 = .ok (.ldc2_w 92, 3) := by decide +kernel
theorem dX11_text_182 : decode cX11_text 182 = .ok (.invokevirtual 271, 3) := by decide +kernel
theorem dX11_text_185 : decode cX11_text 185 = .ok (.aload_n 0, 1) := by decide +kernel
theorem dX11_text_186 : decode cX11_text 186 = .ok (.iconst 4, 1) := by decide +kernel
theorem dX11_text_187 : decode cX11_text 187 = .ok (.lconst 0, 1) := by decide +kernel
theorem dX11_text_188 : decode cX11_text 188 = .ok (.invokevirtual 271, 3) := by decide +kernel
theorem dX11_text_191 : decode cX11_text 191 = .ok (.aload_n 0, 1) := by decide +kernel
theorem dX11_text_192 : decode cX11_text 192 = .ok (.iconst 5, 1) := by decide +kernel
theorem dX11_text_193 : decode cX11_text 193 = .ok (.lconst 1, 1) := by decide +kernel
theorem dX11_text_194 : decode cX11_text 194 = .ok (.invokevirtual 271, 3) := by decide +kernel
theorem dX11_text_197 : decode cX11_text 197 = .ok (.aload_n 0, 1) := by decide +kernel
theorem dX11_text_198 : decode cX11_text 198 = .ok (.bipush 6, 2) := by decide +kernel
theorem dX11_text_200 : decode cX11_text 200 = .ok (.ldc2_w 94, 3) := by decide +kernel
theorem dX11_text_203 : decode cX11_text 203 = .ok (.invokevirtual 271, 3) := by decide +kernel
theorem dX11_text_206 : decode cX11_text 206 = .ok (.aload_n 0, 1) := by decide +kernel
theorem dX11_text_207 : decode cX11_text 207 = .ok (.invokevirtual 275, 3) := by decide +kernel
theorem dX11_text_210 : decode cX11_text 210 = .ok (.iconst 0, 1) := by decide +kernel
theorem dX11_text_211 : decode cX11_text 211 = .ok (.istore_n 2, 1) := by decide +kernel
theorem dX11_text_212 : decode cX11_text 212 = .ok (.iload_n 2, 1) := by decide +kernel
theorem dX11_text_213 : decode cX11_text 213 = .ok (.sipush 773, 3) := by decide +kernel
theorem dX11_text_216 : decode cX11_text 216 = .ok (.if_icmp .ge 21, 3) := by decide +kernel
theorem dX11_text_219 : decode cX11_text 219 = .ok (.aload_n 0, 1) := by decide +kernel
theorem dX11_text_220 : decode cX11_text 220 = .ok (.getfield 17, 3) := by decide +kernel
theorem dX11_text_223 : decode cX11_text 223 = .ok (.iload_n 2, 1) := by decide +kernel
theorem dX11_text_224 : decode cX11_text 224 = .ok (.aload_n 0, 1) := by decide +kernel
theorem dX11_text_225 : decode cX11_text 225 = .ok (.getfield 21, 3) := by decide +kernel
theorem dX11_text_228 : decode cX11_text 228 = .ok (.iload_n 2, 1) := by decide +kernel
theorem dX11_text_229 : decode cX11_text 229 = .ok (.laload, 1) := by decide +kernel
theorem dX11_text_230 : decode cX11_text 230 = .ok (.lastore, 1) := by decide +kernel
theorem dX11_text_231 : decode cX11_text 231 = .ok (.iinc 2 1, 3) := by decide +kernel
theorem dX11_text_234 : decode cX11_text 234 = .ok (.goto (-22), 3) := by decide +kernel
theorem dX11_text_237 : decode cX11_text 237 = .ok (.aload_n 0, 1) := by decide +kernel
theorem dX11_text_238 : decode cX11_text 238 = .ok (.invokevirtual 278, 3) := by decide +kernel
theorem dX11_text_241 : decode cX11_text 241 = .ok (.ireturn, 1) := by decide +kernel
theorem dX11_fault_0 : decode cX11_fault 0 = .ok (.aload_n 0, 1) := by decide +kernel
theorem dX11_fault_1 : decode cX11_fault 1 = .ok (.iconst 0, 1) := by decide +kernel
theorem dX11_fault_2 : decode cX11_fault 2 = .ok (.putfield 1, 3) := by decide +kernel
theorem dX11_fault_5 : decode cX11_fault 5 = .ok (.aload_n 0, 1) := by decide +kernel
theorem dX11_fault_6 : decode cX11_fault 6 = .ok (.getfield 37, 3) := by decide +kernel
theorem dX11_fault_9 : decode cX11_fault 9 = .ok (.ireturn, 1) := by decide +kernel
theorem dX11_isDealer_0 : decode cX11_isDealer 0 = .ok (.iload_n 1, 1) := by decide +kernel
theorem dX11_isDealer_1 : decode cX11_isDealer 1 = .ok (.i2l, 1) := by decide +kernel
theorem dX11_isDealer_2 : decode cX11_isDealer 2 = .ok (.lconst 0, 1) := by decide +kernel
theorem dX11_isDealer_3 : decode cX11_isDealer 3 = .ok (.aload_n 0, 1) := by decide +kernel
theorem dX11_isDealer_4 : decode cX11_isDealer 4 = .ok (.invokevirtual 281, 3) := by decide +kernel
theorem dX11_isDealer_7 : decode cX11_isDealer 7 = .ok (.iconst 1, 1) := by decide +kernel
theorem dX11_isDealer_8 : decode cX11_isDealer 8 = .ok (.isub, 1) := by decide +kernel
theorem dX11_isDealer_9 : decode cX11_isDealer 9 = .ok (.i2l, 1) := by decide +kernel
theorem dX11_isDealer_10 : decode cX11_isDealer 10 = .ok (.invokestatic 164, 3) := by decide +kernel
theorem dX11_isDealer_13 : decode cX11_isDealer 13 = .ok (.ireturn, 1) := by decide +kernel
theorem dX11_isSale_0 : decode cX11_isSale 0 = .ok (.iload_n 1, 1) := by decide +kernel
theorem dX11_isSale_1 : decode cX11_isSale 1 = .ok (.i2l, 1) := by decide +kernel
theorem dX11_isSale_2 : decode cX11_isSale 2 = .ok (.lconst 0, 1) := by decide +kernel
theorem dX11_isSale_3 : decode cX11_isSale 3 = .ok (.aload_n 0, 1) := by decide +kernel
theorem dX11_isSale_4 : decode cX11_isSale 4 = .ok (.invokevirtual 278, 3) := by decide +kernel
theorem dX11_isSale_7 : decode cX11_isSale 7 = .ok (.iconst 1, 1) := by decide +kernel
theorem dX11_isSale_8 : decode cX11_isSale 8 = .ok (.isub, 1) := by decide +kernel
theorem dX11_isSale_9 : decode cX11_isSale 9 = .ok (.i2l, 1) := by decide +kernel
theorem dX11_isSale_10 : decode cX11_isSale 10 = .ok (.invokestatic 164, 3) := by decide +kernel
theorem dX11_isSale_13 : decode cX11_isSale 13 = .ok (.ireturn, 1) := by decide +kernel
theorem dX11_sale_0 : decode cX11_sale 0 = .ok (.aload_n 0, 1) := by decide +kernel
theorem dX11_sale_1 : decode cX11_sale 1 = .ok (.iconst 0, 1) := by decide +kernel
theorem dX11_sale_2 : decode cX11_sale 2 = .ok (.putfield 1, 3) := by decide +kernel
theorem dX11_sale_5 : decode cX11_sale 5 = .ok (.aload_n 0, 1) := by decide +kernel
theorem dX11_sale_6 : decode cX11_sale 6 = .ok (.aload_n 0, 1) := by decide +kernel
theorem dX11_sale_7 : decode cX11_sale 7 = .ok (.iload_n 1, 1) := by decide +kernel
theorem dX11_sale_8 : decode cX11_sale 8 = .ok (.invokevirtual 284, 3) := by decide +kernel
theorem dX11_sale_11 : decode cX11_sale 11 = .ok (.ifCond .eq 15, 3) := by decide +kernel
theorem dX11_sale_14 : decode cX11_sale 14 = .ok (.aload_n 0, 1) := by decide +kernel
theorem dX11_sale_15 : decode cX11_sale 15 = .ok (.iload_n 2, 1) := by decide +kernel
theorem dX11_sale_16 : decode cX11_sale 16 = .ok (.invokevirtual 284, 3) := by decide +kernel
theorem dX11_sale_19 : decode cX11_sale 19 = .ok (.ifCond .eq 7, 3) := by decide +kernel
theorem dX11_sale_22 : decode cX11_sale 22 = .ok (.iconst 1, 1) := by decide +kernel
theorem dX11_sale_23 : decode cX11_sale 23 = .ok (.goto 4, 3) := by decide +kernel
theorem dX11_sale_26 : decode cX11_sale 26 = .ok (.iconst 0, 1) := by decide +kernel
theorem dX11_sale_27 : decode cX11_sale 27 = .ok (.iconst 1, 1) := by decide +kernel
theorem dX11_sale_28 : decode cX11_sale 28 = .ok (.iconst 0, 1) := by decide +kernel
theorem dX11_sale_29 : decode cX11_sale 29 = .ok (.invokevirtual 264, 3) := by decide +kernel
theorem dX11_sale_32 : decode cX11_sale 32 = .ok (.ifCond .ne 5, 3) := by decide +kernel
theorem dX11_sale_35 : decode cX11_sale 35 = .ok (.iconst 0, 1) := by decide +kernel
theorem dX11_sale_36 : decode cX11_sale 36 = .ok (.ireturn, 1) := by decide +kernel
theorem dX11_sale_37 : decode cX11_sale 37 = .ok (.aload_n 0, 1) := by decide +kernel
theorem dX11_sale_38 : decode cX11_sale 38 = .ok (.iload_n 1, 1) := by decide +kernel
theorem dX11_sale_39 : decode cX11_sale 39 = .ok (.iload_n 2, 1) := by decide +kernel
theorem dX11_sale_40 : decode cX11_sale 40 = .ok (.if_icmp .eq 45, 3) := by decide +kernel
theorem dX11_sale_43 : decode cX11_sale 43 = .ok (.iload_n 3, 1) := by decide +kernel
theorem dX11_sale_44 : decode cX11_sale 44 = .ok (.i2l, 1) := by decide +kernel
theorem dX11_sale_45 : decode cX11_sale 45 = .ok (.lconst 1, 1) := by decide +kernel
theorem dX11_sale_46 : decode cX11_sale 46 = .ok (.ldc2_w 231, 3) := by decide +kernel
theorem dX11_sale_49 : decode cX11_sale 49 = .ok (.invokestatic 164, 3) := by decide +kernel
theorem dX11_sale_52 : decode cX11_sale 52 = .ok (.ifCond .eq 33, 3) := by decide +kernel
theorem dX11_sale_55 : decode cX11_sale 55 = .ok (.iload 4, 2) := by decide +kernel
theorem dX11_sale_57 : decode cX11_sale 57 = .ok (.i2l, 1) := by decide +kernel
theorem dX11_sale_58 : decode cX11_sale 58 = .ok (.lconst 1, 1) := by decide +kernel
theorem dX11_sale_59 : decode cX11_sale 59 = .ok (.ldc2_w 233, 3) := by decide +kernel
theorem dX11_sale_62 : decode cX11_sale 62 = .ok (.invokestatic 164, 3) := by decide +kernel
theorem dX11_sale_65 : decode cX11_sale 65 = .ok (.ifCond .eq 20, 3) := by decide +kernel
theorem dX11_sale_68 : decode cX11_sale 68 = .ok (.iload 5, 2) := by decide +kernel
theorem dX11_sale_70 : decode cX11_sale 70 = .ok (.i2l, 1) := by decide +kernel
theorem dX11_sale_71 : decode cX11_sale 71 = .ok (.lconst 0, 1) := by decide +kernel
theorem dX11_sale_72 : decode cX11_sale 72 = .ok (.ldc2_w 235, 3) := by decide +kernel
theorem dX11_sale_75 : decode cX11_sale 75 = .ok (.invokestatic 164, 3) := by decide +kernel
theorem dX11_sale_78 : decode cX11_sale 78 = .ok (.ifCond .eq 7, 3) := by decide +kernel
theorem dX11_sale_81 : decode cX11_sale 81 = .ok (.iconst 1, 1) := by decide +kernel
theorem dX11_sale_82 : decode cX11_sale 82 = .ok (.goto 4, 3) := by decide +kernel
theorem dX11_sale_85 : decode cX11_sale 85 = .ok (.iconst 0, 1) := by decide +kernel
theorem dX11_sale_86 : decode cX11_sale 86 = .ok (.iconst 2, 1) := by decide +kernel
theorem dX11_sale_87 : decode cX11_sale 87 = .ok (.iconst 1, 1) := by decide +kernel
theorem dX11_sale_88 : decode cX11_sale 88 = .ok (.invokevirtual 264, 3) := by decide +kernel
theorem dX11_sale_91 : decode cX11_sale 91 = .ok (.ifCond .eq 26, 3) := by decide +kernel
theorem dX11_sale_94 : decode cX11_sale 94 = .ok (.aload_n 0, 1) := by decide +kernel
theorem dX11_sale_95 : decode cX11_sale 95 = .ok (.aload_n 0, 1) := by decide +kernel
theorem dX11_sale_96 : decode cX11_sale 96 = .ok (.invokevirtual 278, 3) := by decide +kernel
theorem dX11_sale_99 : decode cX11_sale 99 = .ok (.bipush 24, 2) := by decide +kernel
theorem dX11_sale_101 : decode cX11_sale 101 = .ok (.if_icmp .ge 7, 3) := by decide +kernel
theorem dX11_sale_104 : decode cX11_sale 104 = .ok (.iconst 1, 1) := by decide +kernel
theorem dX11_sale_105 : decode cX11_sale 105 = .ok (.goto 4, 3) := by decide +kernel
theorem dX11_sale_108 : decode cX11_sale 108 = .ok (.iconst 0, 1) := by decide +kernel
theorem dX11_sale_109 : decode cX11_sale 109 = .ok (.iconst 3, 1) := by decide +kernel
theorem dX11_sale_110 : decode cX11_sale 110 = .ok (.iconst 2, 1) := by decide +kernel
theorem dX11_sale_111 : decode cX11_sale 111 = .ok (.invokevirtual 264, 3) := by decide +kernel
theorem dX11_sale_114 : decode cX11_sale 114 = .ok (.ifCond .ne 5, 3) := by decide +kernel
theorem dX11_sale_117 : decode cX11_sale 117 = .ok (.iconst 0, 1) := by decide +kernel
theorem dX11_sale_118 : decode cX11_sale 118 = .ok (.ireturn, 1) := by decide +kernel
theorem dX11_sale_119 : decode cX11_sale 119 = .ok (.aload_n 0, 1) := by decide +kernel
theorem dX11_sale_120 : decode cX11_sale 120 = .ok (.invokevirtual 275, 3) := by decide +kernel
theorem dX11_sale_123 : decode cX11_sale 123 = .ok (.bipush 57, 2) := by decide +kernel
theorem dX11_sale_125 : decode cX11_sale 125 = .ok (.bipush 9, 2) := by decide +kernel
theorem dX11_sale_127 : decode cX11_sale 127 = .ok (.aload_n 0, 1) := by decide +kernel
theorem dX11_sale_128 : decode cX11_sale 128 = .ok (.invokevirtual 278, 3) := by decide +kernel
theorem dX11_sale_131 : decode cX11_sale 131 = .ok (.imul, 1) := by decide +kernel
theorem dX11_sale_132 : decode cX11_sale 132 = .ok (.iadd, 1) := by decide +kernel
theorem dX11_sale_133 : decode cX11_sale 133 = .ok (.istore 6, 2) := by decide +kernel
theorem dX11_sale_135 : decode cX11_sale 135 = .ok (.iconst 0, 1) := by decide +kernel
theorem dX11_sale_136 : decode cX11_sale 136 = .ok (.istore 7, 2) := by decide +kernel
theorem dX11_sale_138 : decode cX11_sale 138 = .ok (.iload 7, 2) := by decide +kernel
theorem dX11_sale_140 : decode cX11_sale 140 = .ok (.bipush 9, 2) := by decide +kernel
theorem dX11_sale_142 : decode cX11_sale 142 = .ok (.if_icmp .ge 20, 3) := by decide +kernel
theorem dX11_sale_145 : decode cX11_sale 145 = .ok (.aload_n 0, 1) := by decide +kernel
theorem dX11_sale_146 : decode cX11_sale 146 = .ok (.getfield 17, 3) := by decide +kernel
theorem dX11_sale_149 : decode cX11_sale 149 = .ok (.iload 6, 2) := by decide +kernel
theorem dX11_sale_151 : decode cX11_sale 151 = .ok (.iload 7, 2) := by decide +kernel
theorem dX11_sale_153 : decode cX11_sale 153 = .ok (.iadd, 1) := by decide +kernel
theorem dX11_sale_154 : decode cX11_sale 154 = .ok (.lconst 0, 1) := by decide +kernel
theorem dX11_sale_155 : decode cX11_sale 155 = .ok (.lastore, 1) := by decide +kernel
theorem dX11_sale_156 : decode cX11_sale 156 = .ok (.iinc 7 1, 3) := by decide +kernel
theorem dX11_sale_159 : decode cX11_sale 159 = .ok (.goto (-21), 3) := by decide +kernel
theorem dX11_sale_162 : decode cX11_sale 162 = .ok (.aload_n 0, 1) := by decide +kernel
theorem dX11_sale_163 : decode cX11_sale 163 = .ok (.getfield 17, 3) := by decide +kernel
theorem dX11_sale_166 : decode cX11_sale 166 = .ok (.iload 6, 2) := by decide +kernel
theorem dX11_sale_168 : decode cX11_sale 168 = .ok (.iconst 0, 1) := by decide +kernel
theorem dX11_sale_169 : decode cX11_sale 169 = .ok (.iadd, 1) := by decide +kernel
theorem dX11_sale_170 : decode cX11_sale 170 = .ok (.iload_n 1, 1) := by decide +kernel
theorem dX11_sale_171 : decode cX11_sale 171 = .ok (.i2l, 1) := by decide +kernel
theorem dX11_sale_172 : decode cX11_sale 172 = .ok (.lastore, 1) := by decide +kernel
theorem dX11_sale_173 : decode cX11_sale 173 = .ok (.aload_n 0, 1) := by decide +kernel
theorem dX11_sale_174 : decode cX11_sale 174 = .ok (.getfield 17, 3) := by decide +kernel
theorem dX11_sale_177 : decode cX11_sale 177 = .ok (.iload 6, 2) := by decide +kernel
theorem dX11_sale_179 : decode cX11_sale 179 = .ok (.iconst 1, 1) := by decide +kernel
theorem dX11_sale_180 : decode cX11_sale 180 = .ok (.iadd, 1) := by decide +kernel
theorem dX11_sale_181 : decode cX11_sale 181 = .ok (.iload_n 2, 1) := by decide +kernel
theorem dX11_sale_182 : decode cX11_sale 182 = .ok (.i2l, 1) := by decide +kernel
theorem dX11_sale_183 : decode cX11_sale 183 = .ok (.lastore, 1) := by decide +kernel
theorem dX11_sale_184 : decode cX11_sale 184 = .ok (.aload_n 0, 1) := by decide +kernel
theorem dX11_sale_185 : decode cX11_sale 185 = .ok (.getfield 17, 3) := by decide +kernel
theorem dX11_sale_188 : decode cX11_sale 188 = .ok (.iload 6, 2) := by decide +kernel
theorem dX11_sale_190 : decode cX11_sale 190 = .ok (.iconst 2, 1) := by decide +kernel
theorem dX11_sale_191 : decode cX11_sale 191 = .ok (.iadd, 1) := by decide +kernel
theorem dX11_sale_192 : decode cX11_sale 192 = .ok (.iload_n 3, 1) := by decide +kernel
theorem dX11_sale_193 : decode cX11_sale 193 = .ok (.i2l, 1) := by decide +kernel
theorem dX11_sale_194 : decode cX11_sale 194 = .ok (.lastore, 1) := by decide +kernel
theorem dX11_sale_195 : decode cX11_sale 195 = .ok (.aload_n 0, 1) := by decide +kernel
theorem dX11_sale_196 : decode cX11_sale 196 = .ok (.getfield 17, 3) := by decide +kernel
theorem dX11_sale_199 : decode cX11_sale 199 = .ok (.iload 6, 2) := by decide +kernel
theorem dX11_sale_201 : decode cX11_sale 201 = .ok (.iconst 5, 1) := by decide +kernel
theorem dX11_sale_202 : decode cX11_sale 202 = .ok (.iadd, 1) := by decide +kernel
theorem dX11_sale_203 : decode cX11_sale 203 = .ok (.iload_n 3, 1) := by decide +kernel
theorem dX11_sale_204 : decode cX11_sale 204 = .ok (.i2l, 1) := by decide +kernel
theorem dX11_sale_205 : decode cX11_sale 205 = .ok (.lastore, 1) := by decide +kernel
theorem dX11_sale_206 : decode cX11_sale 206 = .ok (.aload_n 0, 1) := by decide +kernel
theorem dX11_sale_207 : decode cX11_sale 207 = .ok (.getfield 17, 3) := by decide +kernel
theorem dX11_sale_210 : decode cX11_sale 210 = .ok (.iload 6, 2) := by decide +kernel
theorem dX11_sale_212 : decode cX11_sale 212 = .ok (.iconst 3, 1) := by decide +kernel
theorem dX11_sale_213 : decode cX11_sale 213 = .ok (.iadd, 1) := by decide +kernel
theorem dX11_sale_214 : decode cX11_sale 214 = .ok (.iload 4, 2) := by decide +kernel
theorem dX11_sale_216 : decode cX11_sale 216 = .ok (.i2l, 1) := by decide +kernel
theorem dX11_sale_217 : decode cX11_sale 217 = .ok (.lastore, 1) := by decide +kernel
theorem dX11_sale_218 : decode cX11_sale 218 = .ok (.aload_n 0, 1) := by decide +kernel
theorem dX11_sale_219 : decode cX11_sale 219 = .ok (.getfield 17, 3) := by decide +kernel
theorem dX11_sale_222 : decode cX11_sale 222 = .ok (.iload 6, 2) := by decide +kernel
theorem dX11_sale_224 : decode cX11_sale 224 = .ok (.iconst 4, 1) := by decide +kernel
theorem dX11_sale_225 : decode cX11_sale 225 = .ok (.iadd, 1) := by decide +kernel
theorem dX11_sale_226 : decode cX11_sale 226 = .ok (.iload 5, 2) := by decide +kernel
theorem dX11_sale_228 : decode cX11_sale 228 = .ok (.i2l, 1) := by decide +kernel
theorem dX11_sale_229 : decode cX11_sale 229 = .ok (.lastore, 1) := by decide +kernel
theorem dX11_sale_230 : decode cX11_sale 230 = .ok (.aload_n 0, 1) := by decide +kernel
theorem dX11_sale_231 : decode cX11_sale 231 = .ok (.getfield 17, 3) := by decide +kernel
theorem dX11_sale_234 : decode cX11_sale 234 = .ok (.iconst 1, 1) := by decide +kernel
theorem dX11_sale_235 : decode cX11_sale 235 = .ok (.dup2, 1) := by decide +kernel
theorem dX11_sale_236 : decode cX11_sale 236 = .ok (.laload, 1) := by decide +kernel
theorem dX11_sale_237 : decode cX11_sale 237 = .ok (.lconst 1, 1) := by decide +kernel
theorem dX11_sale_238 : decode cX11_sale 238 = .ok (.ladd, 1) := by decide +kernel
theorem dX11_sale_239 : decode cX11_sale 239 = .ok (.lastore, 1) := by decide +kernel
theorem dX11_sale_240 : decode cX11_sale 240 = .ok (.aload_n 0, 1) := by decide +kernel
theorem dX11_sale_241 : decode cX11_sale 241 = .ok (.invokevirtual 278, 3) := by decide +kernel
theorem dX11_sale_244 : decode cX11_sale 244 = .ok (.iconst 1, 1) := by decide +kernel
theorem dX11_sale_245 : decode cX11_sale 245 = .ok (.isub, 1) := by decide +kernel
theorem dX11_sale_246 : decode cX11_sale 246 = .ok (.ireturn, 1) := by decide +kernel
theorem dX11_stock_0 : decode cX11_stock 0 = .ok (.aload_n 0, 1) := by decide +kernel
theorem dX11_stock_1 : decode cX11_stock 1 = .ok (.iconst 0, 1) := by decide +kernel
theorem dX11_stock_2 : decode cX11_stock 2 = .ok (.putfield 1, 3) := by decide +kernel
theorem dX11_stock_5 : decode cX11_stock 5 = .ok (.aload_n 0, 1) := by decide +kernel
theorem dX11_stock_6 : decode cX11_stock 6 = .ok (.aload_n 0, 1) := by decide +kernel
theorem dX11_stock_7 : decode cX11_stock 7 = .ok (.iload_n 1, 1) := by decide +kernel
theorem dX11_stock_8 : decode cX11_stock 8 = .ok (.invokevirtual 284, 3) := by decide +kernel
theorem dX11_stock_11 : decode cX11_stock 11 = .ok (.iconst 1, 1) := by decide +kernel
theorem dX11_stock_12 : decode cX11_stock 12 = .ok (.iconst 0, 1) := by decide +kernel
theorem dX11_stock_13 : decode cX11_stock 13 = .ok (.invokevirtual 264, 3) := by decide +kernel
theorem dX11_stock_16 : decode cX11_stock 16 = .ok (.ifCond .eq 21, 3) := by decide +kernel
theorem dX11_stock_19 : decode cX11_stock 19 = .ok (.aload_n 0, 1) := by decide +kernel
theorem dX11_stock_20 : decode cX11_stock 20 = .ok (.iload_n 2, 1) := by decide +kernel
theorem dX11_stock_21 : decode cX11_stock 21 = .ok (.i2l, 1) := by decide +kernel
theorem dX11_stock_22 : decode cX11_stock 22 = .ok (.lconst 0, 1) := by decide +kernel
theorem dX11_stock_23 : decode cX11_stock 23 = .ok (.ldc2_w 287, 3) := by decide +kernel
theorem dX11_stock_26 : decode cX11_stock 26 = .ok (.invokestatic 164, 3) := by decide +kernel
theorem dX11_stock_29 : decode cX11_stock 29 = .ok (.iconst 2, 1) := by decide +kernel
theorem dX11_stock_30 : decode cX11_stock 30 = .ok (.iconst 1, 1) := by decide +kernel
theorem dX11_stock_31 : decode cX11_stock 31 = .ok (.invokevirtual 264, 3) := by decide +kernel
theorem dX11_stock_34 : decode cX11_stock 34 = .ok (.ifCond .ne 5, 3) := by decide +kernel
theorem dX11_stock_37 : decode cX11_stock 37 = .ok (.iconst 0, 1) := by decide +kernel
theorem dX11_stock_38 : decode cX11_stock 38 = .ok (.ireturn, 1) := by decide +kernel
theorem dX11_stock_39 : decode cX11_stock 39 = .ok (.aload_n 0, 1) := by decide +kernel
theorem dX11_stock_40 : decode cX11_stock 40 = .ok (.invokevirtual 275, 3) := by decide +kernel
theorem dX11_stock_43 : decode cX11_stock 43 = .ok (.aload_n 0, 1) := by decide +kernel
theorem dX11_stock_44 : decode cX11_stock 44 = .ok (.getfield 17, 3) := by decide +kernel
theorem dX11_stock_47 : decode cX11_stock 47 = .ok (.bipush 9, 2) := by decide +kernel
theorem dX11_stock_49 : decode cX11_stock 49 = .ok (.bipush 6, 2) := by decide +kernel
theorem dX11_stock_51 : decode cX11_stock 51 = .ok (.iload_n 1, 1) := by decide +kernel
theorem dX11_stock_52 : decode cX11_stock 52 = .ok (.imul, 1) := by decide +kernel
theorem dX11_stock_53 : decode cX11_stock 53 = .ok (.iadd, 1) := by decide +kernel
theorem dX11_stock_54 : decode cX11_stock 54 = .ok (.iconst 0, 1) := by decide +kernel
theorem dX11_stock_55 : decode cX11_stock 55 = .ok (.iadd, 1) := by decide +kernel
theorem dX11_stock_56 : decode cX11_stock 56 = .ok (.laload, 1) := by decide +kernel
theorem dX11_stock_57 : decode cX11_stock 57 = .ok (.l2i, 1) := by decide +kernel
theorem dX11_stock_58 : decode cX11_stock 58 = .ok (.istore_n 3, 1) := by decide +kernel
theorem dX11_stock_59 : decode cX11_stock 59 = .ok (.aload_n 0, 1) := by decide +kernel
theorem dX11_stock_60 : decode cX11_stock 60 = .ok (.getfield 17, 3) := by decide +kernel
theorem dX11_stock_63 : decode cX11_stock 63 = .ok (.bipush 9, 2) := by decide +kernel
theorem dX11_stock_65 : decode cX11_stock 65 = .ok (.bipush 6, 2) := by decide +kernel
theorem dX11_stock_67 : decode cX11_stock 67 = .ok (.iload_n 1, 1) := by decide +kernel
theorem dX11_stock_68 : decode cX11_stock 68 = .ok (.imul, 1) := by decide +kernel
theorem dX11_stock_69 : decode cX11_stock 69 = .ok (.iadd, 1) := by decide +kernel
theorem dX11_stock_70 : decode cX11_stock 70 = .ok (.iconst 0, 1) := by decide +kernel
theorem dX11_stock_71 : decode cX11_stock 71 = .ok (.iadd, 1) := by decide +kernel
theorem dX11_stock_72 : decode cX11_stock 72 = .ok (.iload_n 2, 1) := by decide +kernel
theorem dX11_stock_73 : decode cX11_stock 73 = .ok (.i2l, 1) := by decide +kernel
theorem dX11_stock_74 : decode cX11_stock 74 = .ok (.lastore, 1) := by decide +kernel
theorem dX11_stock_75 : decode cX11_stock 75 = .ok (.iload_n 3, 1) := by decide +kernel
theorem dX11_stock_76 : decode cX11_stock 76 = .ok (.ireturn, 1) := by decide +kernel
theorem dX11_mark_0 : decode cX11_mark 0 = .ok (.aload_n 0, 1) := by decide +kernel
theorem dX11_mark_1 : decode cX11_mark 1 = .ok (.iconst 0, 1) := by decide +kernel
theorem dX11_mark_2 : decode cX11_mark 2 = .ok (.putfield 1, 3) := by decide +kernel
theorem dX11_mark_5 : decode cX11_mark 5 = .ok (.aload_n 0, 1) := by decide +kernel
theorem dX11_mark_6 : decode cX11_mark 6 = .ok (.iload_n 1, 1) := by decide +kernel
theorem dX11_mark_7 : decode cX11_mark 7 = .ok (.i2l, 1) := by decide +kernel
theorem dX11_mark_8 : decode cX11_mark 8 = .ok (.lconst 1, 1) := by decide +kernel
theorem dX11_mark_9 : decode cX11_mark 9 = .ok (.ldc2_w 233, 3) := by decide +kernel
theorem dX11_mark_12 : decode cX11_mark 12 = .ok (.invokestatic 164, 3) := by decide +kernel
theorem dX11_mark_15 : decode cX11_mark 15 = .ok (.iconst 1, 1) := by decide +kernel
theorem dX11_mark_16 : decode cX11_mark 16 = .ok (.iconst 1, 1) := by decide +kernel
theorem dX11_mark_17 : decode cX11_mark 17 = .ok (.invokevirtual 264, 3) := by decide +kernel
theorem dX11_mark_20 : decode cX11_mark 20 = .ok (.ifCond .ne 5, 3) := by decide +kernel
theorem dX11_mark_23 : decode cX11_mark 23 = .ok (.iconst 0, 1) := by decide +kernel
theorem dX11_mark_24 : decode cX11_mark 24 = .ok (.ireturn, 1) := by decide +kernel
theorem dX11_mark_25 : decode cX11_mark 25 = .ok (.aload_n 0, 1) := by decide +kernel
theorem dX11_mark_26 : decode cX11_mark 26 = .ok (.invokevirtual 275, 3) := by decide +kernel
theorem dX11_mark_29 : decode cX11_mark 29 = .ok (.aload_n 0, 1) := by decide +kernel
theorem dX11_mark_30 : decode cX11_mark 30 = .ok (.getfield 17, 3) := by decide +kernel
theorem dX11_mark_33 : decode cX11_mark 33 = .ok (.iconst 3, 1) := by decide +kernel
theorem dX11_mark_34 : decode cX11_mark 34 = .ok (.laload, 1) := by decide +kernel
theorem dX11_mark_35 : decode cX11_mark 35 = .ok (.l2i, 1) := by decide +kernel
theorem dX11_mark_36 : decode cX11_mark 36 = .ok (.istore_n 2, 1) := by decide +kernel
theorem dX11_mark_37 : decode cX11_mark 37 = .ok (.aload_n 0, 1) := by decide +kernel
theorem dX11_mark_38 : decode cX11_mark 38 = .ok (.getfield 17, 3) := by decide +kernel
theorem dX11_mark_41 : decode cX11_mark 41 = .ok (.iconst 3, 1) := by decide +kernel
theorem dX11_mark_42 : decode cX11_mark 42 = .ok (.iload_n 1, 1) := by decide +kernel
theorem dX11_mark_43 : decode cX11_mark 43 = .ok (.i2l, 1) := by decide +kernel
theorem dX11_mark_44 : decode cX11_mark 44 = .ok (.lastore, 1) := by decide +kernel
theorem dX11_mark_45 : decode cX11_mark 45 = .ok (.iload_n 2, 1) := by decide +kernel
theorem dX11_mark_46 : decode cX11_mark 46 = .ok (.ireturn, 1) := by decide +kernel
theorem dX11_partOf_0 : decode cX11_partOf 0 = .ok (.iload_n 2, 1) := by decide +kernel
theorem dX11_partOf_1 : decode cX11_partOf 1 = .ok (.tableswitch 94 0 5 #[39, 54, 62, 70, 78, 86], 39) := by decide +kernel
theorem dX11_partOf_40 : decode cX11_partOf 40 = .ok (.aload_n 0, 1) := by decide +kernel
theorem dX11_partOf_41 : decode cX11_partOf 41 = .ok (.getfield 17, 3) := by decide +kernel
theorem dX11_partOf_44 : decode cX11_partOf 44 = .ok (.iconst 2, 1) := by decide +kernel
theorem dX11_partOf_45 : decode cX11_partOf 45 = .ok (.laload, 1) := by decide +kernel
theorem dX11_partOf_46 : decode cX11_partOf 46 = .ok (.aload_n 0, 1) := by decide +kernel
theorem dX11_partOf_47 : decode cX11_partOf 47 = .ok (.iload_n 1, 1) := by decide +kernel
theorem dX11_partOf_48 : decode cX11_partOf 48 = .ok (.iconst 4, 1) := by decide +kernel
theorem dX11_partOf_49 : decode cX11_partOf 49 = .ok (.invokevirtual 289, 3) := by decide +kernel
theorem dX11_partOf_52 : decode cX11_partOf 52 = .ok (.i2l, 1) := by decide +kernel
theorem dX11_partOf_53 : decode cX11_partOf 53 = .ok (.lsub, 1) := by decide +kernel
theorem dX11_partOf_54 : decode cX11_partOf 54 = .ok (.lreturn, 1) := by decide +kernel
theorem dX11_partOf_55 : decode cX11_partOf 55 = .ok (.aload_n 0, 1) := by decide +kernel
theorem dX11_partOf_56 : decode cX11_partOf 56 = .ok (.iload_n 1, 1) := by decide +kernel
theorem dX11_partOf_57 : decode cX11_partOf 57 = .ok (.iconst 5, 1) := by decide +kernel
theorem dX11_partOf_58 : decode cX11_partOf 58 = .ok (.invokevirtual 289, 3) := by decide +kernel
theorem dX11_partOf_61 : decode cX11_partOf 61 = .ok (.i2l, 1) := by decide +kernel
theorem dX11_partOf_62 : decode cX11_partOf 62 = .ok (.lreturn, 1) := by decide +kernel
theorem dX11_partOf_63 : decode cX11_partOf 63 = .ok (.aload_n 0, 1) := by decide +kernel
theorem dX11_partOf_64 : decode cX11_partOf 64 = .ok (.iload_n 1, 1) := by decide +kernel
theorem dX11_partOf_65 : decode cX11_partOf 65 = .ok (.iconst 2, 1) := by decide +kernel
theorem dX11_partOf_66 : decode cX11_partOf 66 = .ok (.invokevirtual 289, 3) := by decide +kernel
theorem dX11_partOf_69 : decode cX11_partOf 69 = .ok (.i2l, 1) := by decide +kernel
theorem dX11_partOf_70 : decode cX11_partOf 70 = .ok (.lreturn, 1) := by decide +kernel
theorem dX11_partOf_71 : decode cX11_partOf 71 = .ok (.aload_n 0, 1) := by decide +kernel
theorem dX11_partOf_72 : decode cX11_partOf 72 = .ok (.iload_n 1, 1) := by decide +kernel
theorem dX11_partOf_73 : decode cX11_partOf 73 = .ok (.iconst 3, 1) := by decide +kernel
theorem dX11_partOf_74 : decode cX11_partOf 74 = .ok (.invokevirtual 289, 3) := by decide +kernel
theorem dX11_partOf_77 : decode cX11_partOf 77 = .ok (.i2l, 1) := by decide +kernel
theorem dX11_partOf_78 : decode cX11_partOf 78 = .ok (.lreturn, 1) := by decide +kernel
theorem dX11_partOf_79 : decode cX11_partOf 79 = .ok (.aload_n 0, 1) := by decide +kernel
theorem dX11_partOf_80 : decode cX11_partOf 80 = .ok (.iload_n 1, 1) := by decide +kernel
theorem dX11_partOf_81 : decode cX11_partOf 81 = .ok (.iconst 0, 1) := by decide +kernel
theorem dX11_partOf_82 : decode cX11_partOf 82 = .ok (.invokevirtual 289, 3) := by decide +kernel
theorem dX11_partOf_85 : decode cX11_partOf 85 = .ok (.i2l, 1) := by decide +kernel
theorem dX11_partOf_86 : decode cX11_partOf 86 = .ok (.lreturn, 1) := by decide +kernel
theorem dX11_partOf_87 : decode cX11_partOf 87 = .ok (.aload_n 0, 1) := by decide +kernel
theorem dX11_partOf_88 : decode cX11_partOf 88 = .ok (.iload_n 1, 1) := by decide +kernel
theorem dX11_partOf_89 : decode cX11_partOf 89 = .ok (.iconst 1, 1) := by decide +kernel
theorem dX11_partOf_90 : decode cX11_partOf 90 = .ok (.invokevirtual 289, 3) := by decide +kernel
theorem dX11_partOf_93 : decode cX11_partOf 93 = .ok (.i2l, 1) := by decide +kernel
theorem dX11_partOf_94 : decode cX11_partOf 94 = .ok (.lreturn, 1) := by decide +kernel
theorem dX11_partOf_95 : decode cX11_partOf 95 = .ok (.aload_n 0, 1) := by decide +kernel
theorem dX11_partOf_96 : decode cX11_partOf 96 = .ok (.iload_n 1, 1) := by decide +kernel
theorem dX11_partOf_97 : decode cX11_partOf 97 = .ok (.iconst 4, 1) := by decide +kernel
theorem dX11_partOf_98 : decode cX11_partOf 98 = .ok (.invokevirtual 289, 3) := by decide +kernel
theorem dX11_partOf_101 : decode cX11_partOf 101 = .ok (.i2l, 1) := by decide +kernel
theorem dX11_partOf_102 : decode cX11_partOf 102 = .ok (.lreturn, 1) := by decide +kernel
theorem dX11_ruled_0 : decode cX11_ruled 0 = .ok (.iconst 0, 1) := by decide +kernel
theorem dX11_ruled_1 : decode cX11_ruled 1 = .ok (.istore_n 2, 1) := by decide +kernel
theorem dX11_ruled_2 : decode cX11_ruled 2 = .ok (.iconst 0, 1) := by decide +kernel
theorem dX11_ruled_3 : decode cX11_ruled 3 = .ok (.istore_n 3, 1) := by decide +kernel
theorem dX11_ruled_4 : decode cX11_ruled 4 = .ok (.iload_n 3, 1) := by decide +kernel
theorem dX11_ruled_5 : decode cX11_ruled 5 = .ok (.i2l, 1) := by decide +kernel
theorem dX11_ruled_6 : decode cX11_ruled 6 = .ok (.aload_n 0, 1) := by decide +kernel
theorem dX11_ruled_7 : decode cX11_ruled 7 = .ok (.getfield 17, 3) := by decide +kernel
theorem dX11_ruled_10 : decode cX11_ruled 10 = .ok (.bipush 7, 2) := by decide +kernel
theorem dX11_ruled_12 : decode cX11_ruled 12 = .ok (.laload, 1) := by decide +kernel
theorem dX11_ruled_13 : decode cX11_ruled 13 = .ok (.lcmp, 1) := by decide +kernel
theorem dX11_ruled_14 : decode cX11_ruled 14 = .ok (.ifCond .ge 178, 3) := by decide +kernel
theorem dX11_ruled_17 : decode cX11_ruled 17 = .ok (.aload_n 0, 1) := by decide +kernel
theorem dX11_ruled_18 : decode cX11_ruled 18 = .ok (.getfield 17, 3) := by decide +kernel
theorem dX11_ruled_21 : decode cX11_ruled 21 = .ok (.sipush 273, 3) := by decide +kernel
theorem dX11_ruled_24 : decode cX11_ruled 24 = .ok (.iload_n 3, 1) := by decide +kernel
theorem dX11_ruled_25 : decode cX11_ruled 25 = .ok (.iadd, 1) := by decide +kernel
theorem dX11_ruled_26 : decode cX11_ruled 26 = .ok (.laload, 1) := by decide +kernel
theorem dX11_ruled_27 : decode cX11_ruled 27 = .ok (.lstore 4, 2) := by decide +kernel
theorem dX11_ruled_29 : decode cX11_ruled 29 = .ok (.lload 4, 2) := by decide +kernel
theorem dX11_ruled_31 : decode cX11_ruled 31 = .ok (.ldc2_w 185, 3) := by decide +kernel
theorem dX11_ruled_34 : decode cX11_ruled 34 = .ok (.lcmp, 1) := by decide +kernel
theorem dX11_ruled_35 : decode cX11_ruled 35 = .ok (.ifCond .lt 12, 3) := by decide +kernel
theorem dX11_ruled_38 : decode cX11_ruled 38 = .ok (.lload 4, 2) := by decide +kernel
theorem dX11_ruled_40 : decode cX11_ruled 40 = .ok (.ldc2_w 223, 3) := by decide +kernel
theorem dX11_ruled_43 : decode cX11_ruled 43 = .ok (.lcmp, 1) := by decide +kernel
theorem dX11_ruled_44 : decode cX11_ruled 44 = .ok (.ifCond .lt 41, 3) := by decide +kernel
theorem dX11_ruled_47 : decode cX11_ruled 47 = .ok (.aload_n 0, 1) := by decide +kernel
theorem dX11_ruled_48 : decode cX11_ruled 48 = .ok (.getfield 40, 3) := by decide +kernel
theorem dX11_ruled_51 : decode cX11_ruled 51 = .ok (.iload_n 2, 1) := by decide +kernel
theorem dX11_ruled_52 : decode cX11_ruled 52 = .ok (.lload 4, 2) := by decide +kernel
theorem dX11_ruled_54 : decode cX11_ruled 54 = .ok (.ldc2_w 185, 3) := by decide +kernel
theorem dX11_ruled_57 : decode cX11_ruled 57 = .ok (.lcmp, 1) := by decide +kernel
theorem dX11_ruled_58 : decode cX11_ruled 58 = .ok (.ifCond .ge 8, 3) := by decide +kernel
theorem dX11_ruled_61 : decode cX11_ruled 61 = .ok (.lload 4, 2) := by decide +kernel
theorem dX11_ruled_63 : decode cX11_ruled 63 = .ok (.goto 15, 3) := by decide +kernel
theorem dX11_ruled_66 : decode cX11_ruled 66 = .ok (.aload_n 0, 1) := by decide +kernel
theorem dX11_ruled_67 : decode cX11_ruled 67 = .ok (.iload_n 1, 1) := by decide +kernel
theorem dX11_ruled_68 : decode cX11_ruled 68 = .ok (.lload 4, 2) := by decide +kernel
theorem dX11_ruled_70 : decode cX11_ruled 70 = .ok (.ldc2_w 223, 3) := by decide +kernel
theorem dX11_ruled_73 : decode cX11_ruled 73 = .ok (.lsub, 1) := by decide +kernel
theorem dX11_ruled_74 : decode cX11_ruled 74 = .ok (.l2i, 1) := by decide +kernel
theorem dX11_ruled_75 : decode cX11_ruled 75 = .ok (.invokevirtual 293, 3) := by decide +kernel
theorem dX11_ruled_78 : decode cX11_ruled 78 = .ok (.lastore, 1) := by decide +kernel
theorem dX11_ruled_79 : decode cX11_ruled 79 = .ok (.iinc 2 1, 3) := by decide +kernel
theorem dX11_ruled_82 : decode cX11_ruled 82 = .ok (.goto 104, 3) := by decide +kernel
theorem dX11_ruled_85 : decode cX11_ruled 85 = .ok (.lload 4, 2) := by decide +kernel
theorem dX11_ruled_87 : decode cX11_ruled 87 = .ok (.ldc2_w 214, 3) := by decide +kernel
theorem dX11_ruled_90 : decode cX11_ruled 90 = .ok (.lcmp, 1) := by decide +kernel
theorem dX11_ruled_91 : decode cX11_ruled 91 = .ok (.ifCond .ne 23, 3) := by decide +kernel
theorem dX11_ruled_94 : decode cX11_ruled 94 = .ok (.aload_n 0, 1) := by decide +kernel
theorem dX11_ruled_95 : decode cX11_ruled 95 = .ok (.getfield 40, 3) := by decide +kernel
theorem dX11_ruled_98 : decode cX11_ruled 98 = .ok (.iload_n 2, 1) := by decide +kernel
theorem dX11_ruled_99 : decode cX11_ruled 99 = .ok (.iconst 1, 1) := by decide +kernel
theorem dX11_ruled_100 : decode cX11_ruled 100 = .ok (.isub, 1) := by decide +kernel
theorem dX11_ruled_101 : decode cX11_ruled 101 = .ok (.aload_n 0, 1) := by decide +kernel
theorem dX11_ruled_102 : decode cX11_ruled 102 = .ok (.getfield 40, 3) := by decide +kernel
theorem dX11_ruled_105 : decode cX11_ruled 105 = .ok (.iload_n 2, 1) := by decide +kernel
theorem dX11_ruled_106 : decode cX11_ruled 106 = .ok (.iconst 1, 1) := by decide +kernel
theorem dX11_ruled_107 : decode cX11_ruled 107 = .ok (.isub, 1) := by decide +kernel
theorem dX11_ruled_108 : decode cX11_ruled 108 = .ok (.laload, 1) := by decide +kernel
theorem dX11_ruled_109 : decode cX11_ruled 109 = .ok (.lneg, 1) := by decide +kernel
theorem dX11_ruled_110 : decode cX11_ruled 110 = .ok (.lastore, 1) := by decide +kernel
theorem dX11_ruled_111 : decode cX11_ruled 111 = .ok (.goto 75, 3) := by decide +kernel
theorem dX11_ruled_114 : decode cX11_ruled 114 = .ok (.iinc 2 (-1), 3) := by decide +kernel
theorem dX11_ruled_117 : decode cX11_ruled 117 = .ok (.aload_n 0, 1) := by decide +kernel
theorem dX11_ruled_118 : decode cX11_ruled 118 = .ok (.getfield 40, 3) := by decide +kernel
theorem dX11_ruled_121 : decode cX11_ruled 121 = .ok (.iload_n 2, 1) := by decide +kernel
theorem dX11_ruled_122 : decode cX11_ruled 122 = .ok (.iconst 1, 1) := by decide +kernel
theorem dX11_ruled_123 : decode cX11_ruled 123 = .ok (.isub, 1) := by decide +kernel
theorem dX11_ruled_124 : decode cX11_ruled 124 = .ok (.laload, 1) := by decide +kernel
theorem dX11_ruled_125 : decode cX11_ruled 125 = .ok (.lstore 6, 2) := by decide +kernel
theorem dX11_ruled_127 : decode cX11_ruled 127 = .ok (.aload_n 0, 1) := by decide +kernel
theorem dX11_ruled_128 : decode cX11_ruled 128 = .ok (.getfield 40, 3) := by decide +kernel
theorem dX11_ruled_131 : decode cX11_ruled 131 = .ok (.iload_n 2, 1) := by decide +kernel
theorem dX11_ruled_132 : decode cX11_ruled 132 = .ok (.iconst 1, 1) := by decide +kernel
theorem dX11_ruled_133 : decode cX11_ruled 133 = .ok (.isub, 1) := by decide +kernel
theorem dX11_ruled_134 : decode cX11_ruled 134 = .ok (.lload 4, 2) := by decide +kernel
theorem dX11_ruled_136 : decode cX11_ruled 136 = .ok (.ldc2_w 297, 3) := by decide +kernel
theorem dX11_ruled_139 : decode cX11_ruled 139 = .ok (.lcmp, 1) := by decide +kernel
theorem dX11_ruled_140 : decode cX11_ruled 140 = .ok (.ifCond .ne 15, 3) := by decide +kernel
theorem dX11_ruled_143 : decode cX11_ruled 143 = .ok (.lload 6, 2) := by decide +kernel
theorem dX11_ruled_145 : decode cX11_ruled 145 = .ok (.aload_n 0, 1) := by decide +kernel
theorem dX11_ruled_146 : decode cX11_ruled 146 = .ok (.getfield 40, 3) := by decide +kernel
theorem dX11_ruled_149 : decode cX11_ruled 149 = .ok (.iload_n 2, 1) := by decide +kernel
theorem dX11_ruled_150 : decode cX11_ruled 150 = .ok (.laload, 1) := by decide +kernel
theorem dX11_ruled_151 : decode cX11_ruled 151 = .ok (.ladd, 1) := by decide +kernel
theorem dX11_ruled_152 : decode cX11_ruled 152 = .ok (.goto 33, 3) := by decide +kernel
theorem dX11_ruled_155 : decode cX11_ruled 155 = .ok (.lload 4, 2) := by decide +kernel
theorem dX11_ruled_157 : decode cX11_ruled 157 = .ok (.ldc2_w 299, 3) := by decide +kernel
theorem dX11_ruled_160 : decode cX11_ruled 160 = .ok (.lcmp, 1) := by decide +kernel
theorem dX11_ruled_161 : decode cX11_ruled 161 = .ok (.ifCond .ne 15, 3) := by decide +kernel
theorem dX11_ruled_164 : decode cX11_ruled 164 = .ok (.lload 6, 2) := by decide +kernel
theorem dX11_ruled_166 : decode cX11_ruled 166 = .ok (.aload_n 0, 1) := by decide +kernel
theorem dX11_ruled_167 : decode cX11_ruled 167 = .ok (.getfield 40, 3) := by decide +kernel
theorem dX11_ruled_170 : decode cX11_ruled 170 = .ok (.iload_n 2, 1) := by decide +kernel
theorem dX11_ruled_171 : decode cX11_ruled 171 = .ok (.laload, 1) := by decide +kernel
theorem dX11_ruled_172 : decode cX11_ruled 172 = .ok (.lsub, 1) := by decide +kernel
theorem dX11_ruled_173 : decode cX11_ruled 173 = .ok (.goto 12, 3) := by decide +kernel
theorem dX11_ruled_176 : decode cX11_ruled 176 = .ok (.lload 6, 2) := by decide +kernel
theorem dX11_ruled_178 : decode cX11_ruled 178 = .ok (.aload_n 0, 1) := by decide +kernel
theorem dX11_ruled_179 : decode cX11_ruled 179 = .ok (.getfield 40, 3) := by decide +kernel
theorem dX11_ruled_182 : decode cX11_ruled 182 = .ok (.iload_n 2, 1) := by decide +kernel
theorem dX11_ruled_183 : decode cX11_ruled 183 = .ok (.laload, 1) := by decide +kernel
theorem dX11_ruled_184 : decode cX11_ruled 184 = .ok (.lmul, 1) := by decide +kernel
theorem dX11_ruled_185 : decode cX11_ruled 185 = .ok (.lastore, 1) := by decide +kernel
theorem dX11_ruled_186 : decode cX11_ruled 186 = .ok (.iinc 3 1, 3) := by decide +kernel
theorem dX11_ruled_189 : decode cX11_ruled 189 = .ok (.goto (-185), 3) := by decide +kernel
theorem dX11_ruled_192 : decode cX11_ruled 192 = .ok (.iload_n 2, 1) := by decide +kernel
theorem dX11_ruled_193 : decode cX11_ruled 193 = .ok (.ifCond .ne 7, 3) := by decide +kernel
theorem dX11_ruled_196 : decode cX11_ruled 196 = .ok (.lconst 0, 1) := by decide +kernel
theorem dX11_ruled_197 : decode cX11_ruled 197 = .ok (.goto 9, 3) := by decide +kernel
theorem dX11_ruled_200 : decode cX11_ruled 200 = .ok (.aload_n 0, 1) := by decide +kernel
theorem dX11_ruled_201 : decode cX11_ruled 201 = .ok (.getfield 40, 3) := by decide +kernel
theorem dX11_ruled_204 : decode cX11_ruled 204 = .ok (.iconst 0, 1) := by decide +kernel
theorem dX11_ruled_205 : decode cX11_ruled 205 = .ok (.laload, 1) := by decide +kernel
theorem dX11_ruled_206 : decode cX11_ruled 206 = .ok (.lreturn, 1) := by decide +kernel
theorem dX11_orders_0 : decode cX11_orders 0 = .ok (.iconst 0, 1) := by decide +kernel
theorem dX11_orders_1 : decode cX11_orders 1 = .ok (.istore_n 1, 1) := by decide +kernel
theorem dX11_orders_2 : decode cX11_orders 2 = .ok (.iload_n 1, 1) := by decide +kernel
theorem dX11_orders_3 : decode cX11_orders 3 = .ok (.aload_n 0, 1) := by decide +kernel
theorem dX11_orders_4 : decode cX11_orders 4 = .ok (.invokevirtual 278, 3) := by decide +kernel
theorem dX11_orders_7 : decode cX11_orders 7 = .ok (.if_icmp .ge 76, 3) := by decide +kernel
theorem dX11_orders_10 : decode cX11_orders 10 = .ok (.aload_n 0, 1) := by decide +kernel
theorem dX11_orders_11 : decode cX11_orders 11 = .ok (.getfield 46, 3) := by decide +kernel
theorem dX11_orders_14 : decode cX11_orders 14 = .ok (.iload_n 1, 1) := by decide +kernel
theorem dX11_orders_15 : decode cX11_orders 15 = .ok (.aload_n 0, 1) := by decide +kernel
theorem dX11_orders_16 : decode cX11_orders 16 = .ok (.iload_n 1, 1) := by decide +kernel
theorem dX11_orders_17 : decode cX11_orders 17 = .ok (.invokevirtual 301, 3) := by decide +kernel
theorem dX11_orders_20 : decode cX11_orders 20 = .ok (.lastore, 1) := by decide +kernel
theorem dX11_orders_21 : decode cX11_orders 21 = .ok (.iload_n 1, 1) := by decide +kernel
theorem dX11_orders_22 : decode cX11_orders 22 = .ok (.istore_n 2, 1) := by decide +kernel
theorem dX11_orders_23 : decode cX11_orders 23 = .ok (.iload_n 2, 1) := by decide +kernel
theorem dX11_orders_24 : decode cX11_orders 24 = .ok (.ifCond .le 46, 3) := by decide +kernel
theorem dX11_orders_27 : decode cX11_orders 27 = .ok (.aload_n 0, 1) := by decide +kernel
theorem dX11_orders_28 : decode cX11_orders 28 = .ok (.getfield 46, 3) := by decide +kernel
theorem dX11_orders_31 : decode cX11_orders 31 = .ok (.aload_n 0, 1) := by decide +kernel
theorem dX11_orders_32 : decode cX11_orders 32 = .ok (.getfield 43, 3) := by decide +kernel
theorem dX11_orders_35 : decode cX11_orders 35 = .ok (.iload_n 2, 1) := by decide +kernel
theorem dX11_orders_36 : decode cX11_orders 36 = .ok (.iconst 1, 1) := by decide +kernel
theorem dX11_orders_37 : decode cX11_orders 37 = .ok (.isub, 1) := by decide +kernel
theorem dX11_orders_38 : decode cX11_orders 38 = .ok (.iaload, 1) := by decide +kernel
theorem dX11_orders_39 : decode cX11_orders 39 = .ok (.laload, 1) := by decide +kernel
theorem dX11_orders_40 : decode cX11_orders 40 = .ok (.aload_n 0, 1) := by decide +kernel
theorem dX11_orders_41 : decode cX11_orders 41 = .ok (.getfield 46, 3) := by decide +kernel
theorem dX11_orders_44 : decode cX11_orders 44 = .ok (.iload_n 1, 1) := by decide +kernel
theorem dX11_orders_45 : decode cX11_orders 45 = .ok (.laload, 1) := by decide +kernel
theorem dX11_orders_46 : decode cX11_orders 46 = .ok (.lcmp, 1) := by decide +kernel
theorem dX11_orders_47 : decode cX11_orders 47 = .ok (.ifCond .ge 23, 3) := by decide +kernel
theorem dX11_orders_50 : decode cX11_orders 50 = .ok (.aload_n 0, 1) := by decide +kernel
theorem dX11_orders_51 : decode cX11_orders 51 = .ok (.getfield 43, 3) := by decide +kernel
theorem dX11_orders_54 : decode cX11_orders 54 = .ok (.iload_n 2, 1) := by decide +kernel
theorem dX11_orders_55 : decode cX11_orders 55 = .ok (.aload_n 0, 1) := by decide +kernel
theorem dX11_orders_56 : decode cX11_orders 56 = .ok (.getfield 43, 3) := by decide +kernel
theorem dX11_orders_59 : decode cX11_orders 59 = .ok (.iload_n 2, 1) := by decide +kernel
theorem dX11_orders_60 : decode cX11_orders 60 = .ok (.iconst 1, 1) := by decide +kernel
theorem dX11_orders_61 : decode cX11_orders 61 = .ok (.isub, 1) := by decide +kernel
theorem dX11_orders_62 : decode cX11_orders 62 = .ok (.iaload, 1) := by decide +kernel
theorem dX11_orders_63 : decode cX11_orders 63 = .ok (.iastore, 1) := by decide +kernel
theorem dX11_orders_64 : decode cX11_orders 64 = .ok (.iinc 2 (-1), 3) := by decide +kernel
theorem dX11_orders_67 : decode cX11_orders 67 = .ok (.goto (-44), 3) := by decide +kernel
theorem dX11_orders_70 : decode cX11_orders 70 = .ok (.aload_n 0, 1) := by decide +kernel
theorem dX11_orders_71 : decode cX11_orders 71 = .ok (.getfield 43, 3) := by decide +kernel
theorem dX11_orders_74 : decode cX11_orders 74 = .ok (.iload_n 2, 1) := by decide +kernel
theorem dX11_orders_75 : decode cX11_orders 75 = .ok (.iload_n 1, 1) := by decide +kernel
theorem dX11_orders_76 : decode cX11_orders 76 = .ok (.iastore, 1) := by decide +kernel
theorem dX11_orders_77 : decode cX11_orders 77 = .ok (.iinc 1 1, 3) := by decide +kernel
theorem dX11_orders_80 : decode cX11_orders 80 = .ok (.goto (-78), 3) := by decide +kernel
theorem dX11_orders_83 : decode cX11_orders 83 = .ok (.return_, 1) := by decide +kernel
theorem dX11_isAsked_0 : decode cX11_isAsked 0 = .ok (.aload_n 0, 1) := by decide +kernel
theorem dX11_isAsked_1 : decode cX11_isAsked 1 = .ok (.iload_n 1, 1) := by decide +kernel
theorem dX11_isAsked_2 : decode cX11_isAsked 2 = .ok (.iconst 4, 1) := by decide +kernel
theorem dX11_isAsked_3 : decode cX11_isAsked 3 = .ok (.invokevirtual 289, 3) := by decide +kernel
theorem dX11_isAsked_6 : decode cX11_isAsked 6 = .ok (.i2l, 1) := by decide +kernel
theorem dX11_isAsked_7 : decode cX11_isAsked 7 = .ok (.aload_n 0, 1) := by decide +kernel
theorem dX11_isAsked_8 : decode cX11_isAsked 8 = .ok (.getfield 17, 3) := by decide +kernel
theorem dX11_isAsked_11 : decode cX11_isAsked 11 = .ok (.iconst 2, 1) := by decide +kernel
theorem dX11_isAsked_12 : decode cX11_isAsked 12 = .ok (.laload, 1) := by decide +kernel
theorem dX11_isAsked_13 : decode cX11_isAsked 13 = .ok (.lcmp, 1) := by decide +kernel
theorem dX11_isAsked_14 : decode cX11_isAsked 14 = .ok (.ifCond .gt 16, 3) := by decide +kernel
theorem dX11_isAsked_17 : decode cX11_isAsked 17 = .ok (.aload_n 0, 1) := by decide +kernel
theorem dX11_isAsked_18 : decode cX11_isAsked 18 = .ok (.iload_n 1, 1) := by decide +kernel
theorem dX11_isAsked_19 : decode cX11_isAsked 19 = .ok (.iconst 5, 1) := by decide +kernel
theorem dX11_isAsked_20 : decode cX11_isAsked 20 = .ok (.invokevirtual 289, 3) := by decide +kernel
theorem dX11_isAsked_23 : decode cX11_isAsked 23 = .ok (.ifCond .le 7, 3) := by decide +kernel
theorem dX11_isAsked_26 : decode cX11_isAsked 26 = .ok (.iconst 1, 1) := by decide +kernel
theorem dX11_isAsked_27 : decode cX11_isAsked 27 = .ok (.goto 4, 3) := by decide +kernel
theorem dX11_isAsked_30 : decode cX11_isAsked 30 = .ok (.iconst 0, 1) := by decide +kernel
theorem dX11_isAsked_31 : decode cX11_isAsked 31 = .ok (.ireturn, 1) := by decide +kernel
theorem dX11_isRung_0 : decode cX11_isRung 0 = .ok (.aload_n 0, 1) := by decide +kernel
theorem dX11_isRung_1 : decode cX11_isRung 1 = .ok (.iload_n 1, 1) := by decide +kernel
theorem dX11_isRung_2 : decode cX11_isRung 2 = .ok (.invokevirtual 305, 3) := by decide +kernel
theorem dX11_isRung_5 : decode cX11_isRung 5 = .ok (.ifCond .eq 24, 3) := by decide +kernel
theorem dX11_isRung_8 : decode cX11_isRung 8 = .ok (.aload_n 0, 1) := by decide +kernel
theorem dX11_isRung_9 : decode cX11_isRung 9 = .ok (.iload_n 1, 1) := by decide +kernel
theorem dX11_isRung_10 : decode cX11_isRung 10 = .ok (.iconst 5, 1) := by decide +kernel
theorem dX11_isRung_11 : decode cX11_isRung 11 = .ok (.invokevirtual 289, 3) := by decide +kernel
theorem dX11_isRung_14 : decode cX11_isRung 14 = .ok (.i2l, 1) := by decide +kernel
theorem dX11_isRung_15 : decode cX11_isRung 15 = .ok (.aload_n 0, 1) := by decide +kernel
theorem dX11_isRung_16 : decode cX11_isRung 16 = .ok (.getfield 17, 3) := by decide +kernel
theorem dX11_isRung_19 : decode cX11_isRung 19 = .ok (.iconst 5, 1) := by decide +kernel
theorem dX11_isRung_20 : decode cX11_isRung 20 = .ok (.laload, 1) := by decide +kernel
theorem dX11_isRung_21 : decode cX11_isRung 21 = .ok (.lcmp, 1) := by decide +kernel
theorem dX11_isRung_22 : decode cX11_isRung 22 = .ok (.ifCond .lt 7, 3) := by decide +kernel
theorem dX11_isRung_25 : decode cX11_isRung 25 = .ok (.iconst 1, 1) := by decide +kernel
theorem dX11_isRung_26 : decode cX11_isRung 26 = .ok (.goto 4, 3) := by decide +kernel
theorem dX11_isRung_29 : decode cX11_isRung 29 = .ok (.iconst 0, 1) := by decide +kernel
theorem dX11_isRung_30 : decode cX11_isRung 30 = .ok (.ireturn, 1) := by decide +kernel
theorem dX11_hasSeller_0 : decode cX11_hasSeller 0 = .ok (.iconst 0, 1) := by decide +kernel
theorem dX11_hasSeller_1 : decode cX11_hasSeller 1 = .ok (.istore_n 2, 1) := by decide +kernel
theorem dX11_hasSeller_2 : decode cX11_hasSeller 2 = .ok (.iload_n 2, 1) := by decide +kernel
theorem dX11_hasSeller_3 : decode cX11_hasSeller 3 = .ok (.aload_n 0, 1) := by decide +kernel
theorem dX11_hasSeller_4 : decode cX11_hasSeller 4 = .ok (.getfield 308, 3) := by decide +kernel
theorem dX11_hasSeller_7 : decode cX11_hasSeller 7 = .ok (.if_icmp .ge 26, 3) := by decide +kernel
theorem dX11_hasSeller_10 : decode cX11_hasSeller 10 = .ok (.aload_n 0, 1) := by decide +kernel
theorem dX11_hasSeller_11 : decode cX11_hasSeller 11 = .ok (.aload_n 0, 1) := by decide +kernel
theorem dX11_hasSeller_12 : decode cX11_hasSeller 12 = .ok (.getfield 49, 3) := by decide +kernel
theorem dX11_hasSeller_15 : decode cX11_hasSeller 15 = .ok (.iload_n 2, 1) := by decide +kernel
theorem dX11_hasSeller_16 : decode cX11_hasSeller 16 = .ok (.iaload, 1) := by decide +kernel
theorem dX11_hasSeller_17 : decode cX11_hasSeller 17 = .ok (.iconst 0, 1) := by decide +kernel
theorem dX11_hasSeller_18 : decode cX11_hasSeller 18 = .ok (.invokevirtual 289, 3) := by decide +kernel
theorem dX11_hasSeller_21 : decode cX11_hasSeller 21 = .ok (.iload_n 1, 1) := by decide +kernel
theorem dX11_hasSeller_22 : decode cX11_hasSeller 22 = .ok (.if_icmp .ne 5, 3) := by decide +kernel
theorem dX11_hasSeller_25 : decode cX11_hasSeller 25 = .ok (.iconst 1, 1) := by decide +kernel
theorem dX11_hasSeller_26 : decode cX11_hasSeller 26 = .ok (.ireturn, 1) := by decide +kernel
theorem dX11_hasSeller_27 : decode cX11_hasSeller 27 = .ok (.iinc 2 1, 3) := by decide +kernel
theorem dX11_hasSeller_30 : decode cX11_hasSeller 30 = .ok (.goto (-28), 3) := by decide +kernel
theorem dX11_hasSeller_33 : decode cX11_hasSeller 33 = .ok (.iconst 0, 1) := by decide +kernel
theorem dX11_hasSeller_34 : decode cX11_hasSeller 34 = .ok (.ireturn, 1) := by decide +kernel
theorem dX11_canRing_0 : decode cX11_canRing 0 = .ok (.aload_n 0, 1) := by decide +kernel
theorem dX11_canRing_1 : decode cX11_canRing 1 = .ok (.iload_n 1, 1) := by decide +kernel
theorem dX11_canRing_2 : decode cX11_canRing 2 = .ok (.invokevirtual 311, 3) := by decide +kernel
theorem dX11_canRing_5 : decode cX11_canRing 5 = .ok (.ifCond .eq 16, 3) := by decide +kernel
theorem dX11_canRing_8 : decode cX11_canRing 8 = .ok (.aload_n 0, 1) := by decide +kernel
theorem dX11_canRing_9 : decode cX11_canRing 9 = .ok (.aload_n 0, 1) := by decide +kernel
theorem dX11_canRing_10 : decode cX11_canRing 10 = .ok (.iload_n 1, 1) := by decide +kernel
theorem dX11_canRing_11 : decode cX11_canRing 11 = .ok (.iconst 0, 1) := by decide +kernel
theorem dX11_canRing_12 : decode cX11_canRing 12 = .ok (.invokevirtual 289, 3) := by decide +kernel
theorem dX11_canRing_15 : decode cX11_canRing 15 = .ok (.invokevirtual 314, 3) := by decide +kernel
theorem dX11_canRing_18 : decode cX11_canRing 18 = .ok (.ifCond .eq 5, 3) := by decide +kernel
theorem dX11_canRing_21 : decode cX11_canRing 21 = .ok (.iconst 0, 1) := by decide +kernel
theorem dX11_canRing_22 : decode cX11_canRing 22 = .ok (.ireturn, 1) := by decide +kernel
theorem dX11_canRing_23 : decode cX11_canRing 23 = .ok (.aload_n 0, 1) := by decide +kernel
theorem dX11_canRing_24 : decode cX11_canRing 24 = .ok (.getfield 308, 3) := by decide +kernel
theorem dX11_canRing_27 : decode cX11_canRing 27 = .ok (.ifCond .eq 28, 3) := by decide +kernel
theorem dX11_canRing_30 : decode cX11_canRing 30 = .ok (.aload_n 0, 1) := by decide +kernel
theorem dX11_canRing_31 : decode cX11_canRing 31 = .ok (.aload_n 0, 1) := by decide +kernel
theorem dX11_canRing_32 : decode cX11_canRing 32 = .ok (.getfield 49, 3) := by decide +kernel
theorem dX11_canRing_35 : decode cX11_canRing 35 = .ok (.aload_n 0, 1) := by decide +kernel
theorem dX11_canRing_36 : decode cX11_canRing 36 = .ok (.getfield 308, 3) := by decide +kernel
theorem dX11_canRing_39 : decode cX11_canRing 39 = .ok (.iconst 1, 1) := by decide +kernel
theorem dX11_canRing_40 : decode cX11_canRing 40 = .ok (.isub, 1) := by decide +kernel
theorem dX11_canRing_41 : decode cX11_canRing 41 = .ok (.iaload, 1) := by decide +kernel
theorem dX11_canRing_42 : decode cX11_canRing 42 = .ok (.iconst 1, 1) := by decide +kernel
theorem dX11_canRing_43 : decode cX11_canRing 43 = .ok (.invokevirtual 289, 3) := by decide +kernel
theorem dX11_canRing_46 : decode cX11_canRing 46 = .ok (.aload_n 0, 1) := by decide +kernel
theorem dX11_canRing_47 : decode cX11_canRing 47 = .ok (.iload_n 1, 1) := by decide +kernel
theorem dX11_canRing_48 : decode cX11_canRing 48 = .ok (.iconst 0, 1) := by decide +kernel
theorem dX11_canRing_49 : decode cX11_canRing 49 = .ok (.invokevirtual 289, 3) := by decide +kernel
theorem dX11_canRing_52 : decode cX11_canRing 52 = .ok (.if_icmp .ne 7, 3) := by decide +kernel
theorem dX11_canRing_55 : decode cX11_canRing 55 = .ok (.iconst 1, 1) := by decide +kernel
theorem dX11_canRing_56 : decode cX11_canRing 56 = .ok (.goto 4, 3) := by decide +kernel
theorem dX11_canRing_59 : decode cX11_canRing 59 = .ok (.iconst 0, 1) := by decide +kernel
theorem dX11_canRing_60 : decode cX11_canRing 60 = .ok (.ireturn, 1) := by decide +kernel
theorem dX11_finds_0 : decode cX11_finds 0 = .ok (.aload_n 0, 1) := by decide +kernel
theorem dX11_finds_1 : decode cX11_finds 1 = .ok (.iconst 0, 1) := by decide +kernel
theorem dX11_finds_2 : decode cX11_finds 2 = .ok (.putfield 308, 3) := by decide +kernel
theorem dX11_finds_5 : decode cX11_finds 5 = .ok (.aload_n 0, 1) := by decide +kernel
theorem dX11_finds_6 : decode cX11_finds 6 = .ok (.getfield 52, 3) := by decide +kernel
theorem dX11_finds_9 : decode cX11_finds 9 = .ok (.iconst 0, 1) := by decide +kernel
theorem dX11_finds_10 : decode cX11_finds 10 = .ok (.iconst 0, 1) := by decide +kernel
theorem dX11_finds_11 : decode cX11_finds 11 = .ok (.iastore, 1) := by decide +kernel
theorem dX11_finds_12 : decode cX11_finds 12 = .ok (.aload_n 0, 1) := by decide +kernel
theorem dX11_finds_13 : decode cX11_finds 13 = .ok (.getfield 52, 3) := by decide +kernel
theorem dX11_finds_16 : decode cX11_finds 16 = .ok (.aload_n 0, 1) := by decide +kernel
theorem dX11_finds_17 : decode cX11_finds 17 = .ok (.getfield 308, 3) := by decide +kernel
theorem dX11_finds_20 : decode cX11_finds 20 = .ok (.iaload, 1) := by decide +kernel
theorem dX11_finds_21 : decode cX11_finds 21 = .ok (.aload_n 0, 1) := by decide +kernel
theorem dX11_finds_22 : decode cX11_finds 22 = .ok (.invokevirtual 278, 3) := by decide +kernel
theorem dX11_finds_25 : decode cX11_finds 25 = .ok (.if_icmp .ne 25, 3) := by decide +kernel
theorem dX11_finds_28 : decode cX11_finds 28 = .ok (.aload_n 0, 1) := by decide +kernel
theorem dX11_finds_29 : decode cX11_finds 29 = .ok (.getfield 308, 3) := by decide +kernel
theorem dX11_finds_32 : decode cX11_finds 32 = .ok (.ifCond .ne 5, 3) := by decide +kernel
theorem dX11_finds_35 : decode cX11_finds 35 = .ok (.iconst 0, 1) := by decide +kernel
theorem dX11_finds_36 : decode cX11_finds 36 = .ok (.ireturn, 1) := by decide +kernel
theorem dX11_finds_37 : decode cX11_finds 37 = .ok (.aload_n 0, 1) := by decide +kernel
theorem dX11_finds_38 : decode cX11_finds 38 = .ok (.dup, 1) := by decide +kernel
theorem dX11_finds_39 : decode cX11_finds 39 = .ok (.getfield 308, 3) := by decide +kernel
theorem dX11_finds_42 : decode cX11_finds 42 = .ok (.iconst 1, 1) := by decide +kernel
theorem dX11_finds_43 : decode cX11_finds 43 = .ok (.isub, 1) := by decide +kernel
theorem dX11_finds_44 : decode cX11_finds 44 = .ok (.putfield 308, 3) := by decide +kernel
theorem dX11_finds_47 : decode cX11_finds 47 = .ok (.goto (-35), 3) := by decide +kernel
theorem dX11_finds_50 : decode cX11_finds 50 = .ok (.aload_n 0, 1) := by decide +kernel
theorem dX11_finds_51 : decode cX11_finds 51 = .ok (.getfield 43, 3) := by decide +kernel
theorem dX11_finds_54 : decode cX11_finds 54 = .ok (.aload_n 0, 1) := by decide +kernel
theorem dX11_finds_55 : decode cX11_finds 55 = .ok (.getfield 52, 3) := by decide +kernel
theorem dX11_finds_58 : decode cX11_finds 58 = .ok (.aload_n 0, 1) := by decide +kernel
theorem dX11_finds_59 : decode cX11_finds 59 = .ok (.getfield 308, 3) := by decide +kernel
theorem dX11_finds_62 : decode cX11_finds 62 = .ok (.iaload, 1) := by decide +kernel
theorem dX11_finds_63 : decode cX11_finds 63 = .ok (.iaload, 1) := by decide +kernel
theorem dX11_finds_64 : decode cX11_finds 64 = .ok (.istore_n 1, 1) := by decide +kernel
theorem dX11_finds_65 : decode cX11_finds 65 = .ok (.aload_n 0, 1) := by decide +kernel
theorem dX11_finds_66 : decode cX11_finds 66 = .ok (.getfield 52, 3) := by decide +kernel
theorem dX11_finds_69 : decode cX11_finds 69 = .ok (.aload_n 0, 1) := by decide +kernel
theorem dX11_finds_70 : decode cX11_finds 70 = .ok (.getfield 308, 3) := by decide +kernel
theorem dX11_finds_73 : decode cX11_finds 73 = .ok (.dup2, 1) := by decide +kernel
theorem dX11_finds_74 : decode cX11_finds 74 = .ok (.iaload, 1) := by decide +kernel
theorem dX11_finds_75 : decode cX11_finds 75 = .ok (.iconst 1, 1) := by decide +kernel
theorem dX11_finds_76 : decode cX11_finds 76 = .ok (.iadd, 1) := by decide +kernel
theorem dX11_finds_77 : decode cX11_finds 77 = .ok (.iastore, 1) := by decide +kernel
theorem dX11_finds_78 : decode cX11_finds 78 = .ok (.aload_n 0, 1) := by decide +kernel
theorem dX11_finds_79 : decode cX11_finds 79 = .ok (.iload_n 1, 1) := by decide +kernel
theorem dX11_finds_80 : decode cX11_finds 80 = .ok (.invokevirtual 317, 3) := by decide +kernel
theorem dX11_finds_83 : decode cX11_finds 83 = .ok (.ifCond .ne 6, 3) := by decide +kernel
theorem dX11_finds_86 : decode cX11_finds 86 = .ok (.goto (-74), 3) := by decide +kernel
theorem dX11_finds_89 : decode cX11_finds 89 = .ok (.aload_n 0, 1) := by decide +kernel
theorem dX11_finds_90 : decode cX11_finds 90 = .ok (.getfield 49, 3) := by decide +kernel
theorem dX11_finds_93 : decode cX11_finds 93 = .ok (.aload_n 0, 1) := by decide +kernel
theorem dX11_finds_94 : decode cX11_finds 94 = .ok (.getfield 308, 3) := by decide +kernel
theorem dX11_finds_97 : decode cX11_finds 97 = .ok (.iload_n 1, 1) := by decide +kernel
theorem dX11_finds_98 : decode cX11_finds 98 = .ok (.iastore, 1) := by decide +kernel
theorem dX11_finds_99 : decode cX11_finds 99 = .ok (.aload_n 0, 1) := by decide +kernel
theorem dX11_finds_100 : decode cX11_finds 100 = .ok (.dup, 1) := by decide +kernel
theorem dX11_finds_101 : decode cX11_finds 101 = .ok (.getfield 308, 3) := by decide +kernel
theorem dX11_finds_104 : decode cX11_finds 104 = .ok (.iconst 1, 1) := by decide +kernel
theorem dX11_finds_105 : decode cX11_finds 105 = .ok (.iadd, 1) := by decide +kernel
theorem dX11_finds_106 : decode cX11_finds 106 = .ok (.putfield 308, 3) := by decide +kernel
theorem dX11_finds_109 : decode cX11_finds 109 = .ok (.aload_n 0, 1) := by decide +kernel
theorem dX11_finds_110 : decode cX11_finds 110 = .ok (.iload_n 1, 1) := by decide +kernel
theorem dX11_finds_111 : decode cX11_finds 111 = .ok (.iconst 1, 1) := by decide +kernel
theorem dX11_finds_112 : decode cX11_finds 112 = .ok (.invokevirtual 289, 3) := by decide +kernel
theorem dX11_finds_115 : decode cX11_finds 115 = .ok (.aload_n 0, 1) := by decide +kernel
theorem dX11_finds_116 : decode cX11_finds 116 = .ok (.aload_n 0, 1) := by decide +kernel
theorem dX11_finds_117 : decode cX11_finds 117 = .ok (.getfield 49, 3) := by decide +kernel
theorem dX11_finds_120 : decode cX11_finds 120 = .ok (.iconst 0, 1) := by decide +kernel
theorem dX11_finds_121 : decode cX11_finds 121 = .ok (.iaload, 1) := by decide +kernel
theorem dX11_finds_122 : decode cX11_finds 122 = .ok (.iconst 0, 1) := by decide +kernel
theorem dX11_finds_123 : decode cX11_finds 123 = .ok (.invokevirtual 289, 3) := by decide +kernel
theorem dX11_finds_126 : decode cX11_finds 126 = .ok (.if_icmp .ne 5, 3) := by decide +kernel
theorem dX11_finds_129 : decode cX11_finds 129 = .ok (.iconst 1, 1) := by decide +kernel
theorem dX11_finds_130 : decode cX11_finds 130 = .ok (.ireturn, 1) := by decide +kernel
theorem dX11_finds_131 : decode cX11_finds 131 = .ok (.aload_n 0, 1) := by decide +kernel
theorem dX11_finds_132 : decode cX11_finds 132 = .ok (.getfield 308, 3) := by decide +kernel
theorem dX11_finds_135 : decode cX11_finds 135 = .ok (.bipush 8, 2) := by decide +kernel
theorem dX11_finds_137 : decode cX11_finds 137 = .ok (.if_icmp .ge 16, 3) := by decide +kernel
theorem dX11_finds_140 : decode cX11_finds 140 = .ok (.aload_n 0, 1) := by decide +kernel
theorem dX11_finds_141 : decode cX11_finds 141 = .ok (.getfield 52, 3) := by decide +kernel
theorem dX11_finds_144 : decode cX11_finds 144 = .ok (.aload_n 0, 1) := by decide +kernel
theorem dX11_finds_145 : decode cX11_finds 145 = .ok (.getfield 308, 3) := by decide +kernel
theorem dX11_finds_148 : decode cX11_finds 148 = .ok (.iconst 0, 1) := by decide +kernel
theorem dX11_finds_149 : decode cX11_finds 149 = .ok (.iastore, 1) := by decide +kernel
theorem dX11_finds_150 : decode cX11_finds 150 = .ok (.goto 13, 3) := by decide +kernel
theorem dX11_finds_153 : decode cX11_finds 153 = .ok (.aload_n 0, 1) := by decide +kernel
theorem dX11_finds_154 : decode cX11_finds 154 = .ok (.dup, 1) := by decide +kernel
theorem dX11_finds_155 : decode cX11_finds 155 = .ok (.getfield 308, 3) := by decide +kernel
theorem dX11_finds_158 : decode cX11_finds 158 = .ok (.iconst 1, 1) := by decide +kernel
theorem dX11_finds_159 : decode cX11_finds 159 = .ok (.isub, 1) := by decide +kernel
theorem dX11_finds_160 : decode cX11_finds 160 = .ok (.putfield 308, 3) := by decide +kernel
theorem dX11_finds_163 : decode cX11_finds 163 = .ok (.goto (-151), 3) := by decide +kernel
theorem dX11_ringUnits_0 : decode cX11_ringUnits 0 = .ok (.aload_n 0, 1) := by decide +kernel
theorem dX11_ringUnits_1 : decode cX11_ringUnits 1 = .ok (.aload_n 0, 1) := by decide +kernel
theorem dX11_ringUnits_2 : decode cX11_ringUnits 2 = .ok (.getfield 49, 3) := by decide +kernel
theorem dX11_ringUnits_5 : decode cX11_ringUnits 5 = .ok (.iconst 0, 1) := by decide +kernel
theorem dX11_ringUnits_6 : decode cX11_ringUnits 6 = .ok (.iaload, 1) := by decide +kernel
theorem dX11_ringUnits_7 : decode cX11_ringUnits 7 = .ok (.iconst 5, 1) := by decide +kernel
theorem dX11_ringUnits_8 : decode cX11_ringUnits 8 = .ok (.invokevirtual 289, 3) := by decide +kernel
theorem dX11_ringUnits_11 : decode cX11_ringUnits 11 = .ok (.istore_n 1, 1) := by decide +kernel
theorem dX11_ringUnits_12 : decode cX11_ringUnits 12 = .ok (.iconst 1, 1) := by decide +kernel
theorem dX11_ringUnits_13 : decode cX11_ringUnits 13 = .ok (.istore_n 2, 1) := by decide +kernel
theorem dX11_ringUnits_14 : decode cX11_ringUnits 14 = .ok (.iload_n 2, 1) := by decide +kernel
theorem dX11_ringUnits_15 : decode cX11_ringUnits 15 = .ok (.aload_n 0, 1) := by decide +kernel
theorem dX11_ringUnits_16 : decode cX11_ringUnits 16 = .ok (.getfield 308, 3) := by decide +kernel
theorem dX11_ringUnits_19 : decode cX11_ringUnits 19 = .ok (.if_icmp .ge 25, 3) := by decide +kernel
theorem dX11_ringUnits_22 : decode cX11_ringUnits 22 = .ok (.iload_n 1, 1) := by decide +kernel
theorem dX11_ringUnits_23 : decode cX11_ringUnits 23 = .ok (.aload_n 0, 1) := by decide +kernel
theorem dX11_ringUnits_24 : decode cX11_ringUnits 24 = .ok (.aload_n 0, 1) := by decide +kernel
theorem dX11_ringUnits_25 : decode cX11_ringUnits 25 = .ok (.getfield 49, 3) := by decide +kernel
theorem dX11_ringUnits_28 : decode cX11_ringUnits 28 = .ok (.iload_n 2, 1) := by decide +kernel
theorem dX11_ringUnits_29 : decode cX11_ringUnits 29 = .ok (.iaload, 1) := by decide +kernel
theorem dX11_ringUnits_30 : decode cX11_ringUnits 30 = .ok (.iconst 5, 1) := by decide +kernel
theorem dX11_ringUnits_31 : decode cX11_ringUnits 31 = .ok (.invokevirtual 289, 3) := by decide +kernel
theorem dX11_ringUnits_34 : decode cX11_ringUnits 34 = .ok (.invokestatic 320, 3) := by decide +kernel
theorem dX11_ringUnits_37 : decode cX11_ringUnits 37 = .ok (.istore_n 1, 1) := by decide +kernel
theorem dX11_ringUnits_38 : decode cX11_ringUnits 38 = .ok (.iinc 2 1, 3) := by decide +kernel
theorem dX11_ringUnits_41 : decode cX11_ringUnits 41 = .ok (.goto (-27), 3) := by decide +kernel
theorem dX11_ringUnits_44 : decode cX11_ringUnits 44 = .ok (.iload_n 1, 1) := by decide +kernel
theorem dX11_ringUnits_45 : decode cX11_ringUnits 45 = .ok (.iload_n 1, 1) := by decide +kernel
theorem dX11_ringUnits_46 : decode cX11_ringUnits 46 = .ok (.aload_n 0, 1) := by decide +kernel
theorem dX11_ringUnits_47 : decode cX11_ringUnits 47 = .ok (.getfield 17, 3) := by decide +kernel
theorem dX11_ringUnits_50 : decode cX11_ringUnits 50 = .ok (.iconst 5, 1) := by decide +kernel
theorem dX11_ringUnits_51 : decode cX11_ringUnits 51 = .ok (.laload, 1) := by decide +kernel
theorem dX11_ringUnits_52 : decode cX11_ringUnits 52 = .ok (.l2i, 1) := by decide +kernel
theorem dX11_ringUnits_53 : decode cX11_ringUnits 53 = .ok (.irem, 1) := by decide +kernel
theorem dX11_ringUnits_54 : decode cX11_ringUnits 54 = .ok (.isub, 1) := by decide +kernel
theorem dX11_ringUnits_55 : decode cX11_ringUnits 55 = .ok (.ireturn, 1) := by decide +kernel
theorem dX11_settles_0 : decode cX11_settles 0 = .ok (.aload_n 0, 1) := by decide +kernel
theorem dX11_settles_1 : decode cX11_settles 1 = .ok (.iload_n 1, 1) := by decide +kernel
theorem dX11_settles_2 : decode cX11_settles 2 = .ok (.iconst 5, 1) := by decide +kernel
theorem dX11_settles_3 : decode cX11_settles 3 = .ok (.iload_n 2, 1) := by decide +kernel
theorem dX11_settles_4 : decode cX11_settles 4 = .ok (.ineg, 1) := by decide +kernel
theorem dX11_settles_5 : decode cX11_settles 5 = .ok (.i2l, 1) := by decide +kernel
theorem dX11_settles_6 : decode cX11_settles 6 = .ok (.invokevirtual 322, 3) := by decide +kernel
theorem dX11_settles_9 : decode cX11_settles 9 = .ok (.aload_n 0, 1) := by decide +kernel
theorem dX11_settles_10 : decode cX11_settles 10 = .ok (.iload_n 1, 1) := by decide +kernel
theorem dX11_settles_11 : decode cX11_settles 11 = .ok (.iload_n 3, 1) := by decide +kernel
theorem dX11_settles_12 : decode cX11_settles 12 = .ok (.iload_n 2, 1) := by decide +kernel
theorem dX11_settles_13 : decode cX11_settles 13 = .ok (.i2l, 1) := by decide +kernel
theorem dX11_settles_14 : decode cX11_settles 14 = .ok (.invokevirtual 322, 3) := by decide +kernel
theorem dX11_settles_17 : decode cX11_settles 17 = .ok (.aload_n 0, 1) := by decide +kernel
theorem dX11_settles_18 : decode cX11_settles 18 = .ok (.aload_n 0, 1) := by decide +kernel
theorem dX11_settles_19 : decode cX11_settles 19 = .ok (.iload_n 1, 1) := by decide +kernel
theorem dX11_settles_20 : decode cX11_settles 20 = .ok (.iconst 1, 1) := by decide +kernel
theorem dX11_settles_21 : decode cX11_settles 21 = .ok (.invokevirtual 289, 3) := by decide +kernel
theorem dX11_settles_24 : decode cX11_settles 24 = .ok (.aload_n 0, 1) := by decide +kernel
theorem dX11_settles_25 : decode cX11_settles 25 = .ok (.iload_n 1, 1) := by decide +kernel
theorem dX11_settles_26 : decode cX11_settles 26 = .ok (.iconst 0, 1) := by decide +kernel
theorem dX11_settles_27 : decode cX11_settles 27 = .ok (.invokevirtual 289, 3) := by decide +kernel
theorem dX11_settles_30 : decode cX11_settles 30 = .ok (.iload_n 2, 1) := by decide +kernel
theorem dX11_settles_31 : decode cX11_settles 31 = .ok (.i2l, 1) := by decide +kernel
theorem dX11_settles_32 : decode cX11_settles 32 = .ok (.aload_n 0, 1) := by decide +kernel
theorem dX11_settles_33 : decode cX11_settles 33 = .ok (.iload_n 1, 1) := by decide +kernel
theorem dX11_settles_34 : decode cX11_settles 34 = .ok (.iconst 3, 1) := by decide +kernel
theorem dX11_settles_35 : decode cX11_settles 35 = .ok (.invokevirtual 289, 3) := by decide +kernel
theorem dX11_settles_38 : decode cX11_settles 38 = .ok (.i2l, 1) := by decide +kernel
theorem dX11_settles_39 : decode cX11_settles 39 = .ok (.lmul, 1) := by decide +kernel
theorem dX11_settles_40 : decode cX11_settles 40 = .ok (.invokevirtual 326, 3) := by decide +kernel
theorem dX11_settles_43 : decode cX11_settles 43 = .ok (.return_, 1) := by decide +kernel
theorem dX11_laysParts_0 : decode cX11_laysParts 0 = .ok (.iconst 0, 1) := by decide +kernel
theorem dX11_laysParts_1 : decode cX11_laysParts 1 = .ok (.istore_n 1, 1) := by decide +kernel
theorem dX11_laysParts_2 : decode cX11_laysParts 2 = .ok (.iload_n 1, 1) := by decide +kernel
theorem dX11_laysParts_3 : decode cX11_laysParts 3 = .ok (.sipush 576, 3) := by decide +kernel
theorem dX11_laysParts_6 : decode cX11_laysParts 6 = .ok (.if_icmp .ge 23, 3) := by decide +kernel
theorem dX11_laysParts_9 : decode cX11_laysParts 9 = .ok (.aload_n 0, 1) := by decide +kernel
theorem dX11_laysParts_10 : decode cX11_laysParts 10 = .ok (.getfield 55, 3) := by decide +kernel
theorem dX11_laysParts_13 : decode cX11_laysParts 13 = .ok (.iload_n 1, 1) := by decide +kernel
theorem dX11_laysParts_14 : decode cX11_laysParts 14 = .ok (.iconst 0, 1) := by decide +kernel
theorem dX11_laysParts_15 : decode cX11_laysParts 15 = .ok (.iastore, 1) := by decide +kernel
theorem dX11_laysParts_16 : decode cX11_laysParts 16 = .ok (.aload_n 0, 1) := by decide +kernel
theorem dX11_laysParts_17 : decode cX11_laysParts 17 = .ok (.getfield 58, 3) := by decide +kernel
theorem dX11_laysParts_20 : decode cX11_laysParts 20 = .ok (.iload_n 1, 1) := by decide +kernel
theorem dX11_laysParts_21 : decode cX11_laysParts 21 = .ok (.iconst 0, 1) := by decide +kernel
theorem dX11_laysParts_22 : decode cX11_laysParts 22 = .ok (.iastore, 1) := by decide +kernel
theorem dX11_laysParts_23 : decode cX11_laysParts 23 = .ok (.iinc 1 1, 3) := by decide +kernel
theorem dX11_laysParts_26 : decode cX11_laysParts 26 = .ok (.goto (-24), 3) := by decide +kernel
theorem dX11_laysParts_29 : decode cX11_laysParts 29 = .ok (.iconst 0, 1) := by decide +kernel
theorem dX11_laysParts_30 : decode cX11_laysParts 30 = .ok (.istore_n 1, 1) := by decide +kernel
theorem dX11_laysParts_31 : decode cX11_laysParts 31 = .ok (.iload_n 1, 1) := by decide +kernel
theorem dX11_laysParts_32 : decode cX11_laysParts 32 = .ok (.aload_n 0, 1) := by decide +kernel
theorem dX11_laysParts_33 : decode cX11_laysParts 33 = .ok (.invokevirtual 278, 3) := by decide +kernel
theorem dX11_laysParts_36 : decode cX11_laysParts 36 = .ok (.if_icmp .ge 45, 3) := by decide +kernel
theorem dX11_laysParts_39 : decode cX11_laysParts 39 = .ok (.aload_n 0, 1) := by decide +kernel
theorem dX11_laysParts_40 : decode cX11_laysParts 40 = .ok (.getfield 61, 3) := by decide +kernel
theorem dX11_laysParts_43 : decode cX11_laysParts 43 = .ok (.iload_n 1, 1) := by decide +kernel
theorem dX11_laysParts_44 : decode cX11_laysParts 44 = .ok (.aload_n 0, 1) := by decide +kernel
theorem dX11_laysParts_45 : decode cX11_laysParts 45 = .ok (.iload_n 1, 1) := by decide +kernel
theorem dX11_laysParts_46 : decode cX11_laysParts 46 = .ok (.invokevirtual 305, 3) := by decide +kernel
theorem dX11_laysParts_49 : decode cX11_laysParts 49 = .ok (.ifCond .eq 12, 3) := by decide +kernel
theorem dX11_laysParts_52 : decode cX11_laysParts 52 = .ok (.aload_n 0, 1) := by decide +kernel
theorem dX11_laysParts_53 : decode cX11_laysParts 53 = .ok (.iload_n 1, 1) := by decide +kernel
theorem dX11_laysParts_54 : decode cX11_laysParts 54 = .ok (.iconst 5, 1) := by decide +kernel
theorem dX11_laysParts_55 : decode cX11_laysParts 55 = .ok (.invokevirtual 289, 3) := by decide +kernel
theorem dX11_laysParts_58 : decode cX11_laysParts 58 = .ok (.goto 4, 3) := by decide +kernel
theorem dX11_laysParts_61 : decode cX11_laysParts 61 = .ok (.iconst 0, 1) := by decide +kernel
theorem dX11_laysParts_62 : decode cX11_laysParts 62 = .ok (.iastore, 1) := by decide +kernel
theorem dX11_laysParts_63 : decode cX11_laysParts 63 = .ok (.aload_n 0, 1) := by decide +kernel
theorem dX11_laysParts_64 : decode cX11_laysParts 64 = .ok (.getfield 64, 3) := by decide +kernel
theorem dX11_laysParts_67 : decode cX11_laysParts 67 = .ok (.iload_n 1, 1) := by decide +kernel
theorem dX11_laysParts_68 : decode cX11_laysParts 68 = .ok (.aload_n 0, 1) := by decide +kernel
theorem dX11_laysParts_69 : decode cX11_laysParts 69 = .ok (.getfield 61, 3) := by decide +kernel
theorem dX11_laysParts_72 : decode cX11_laysParts 72 = .ok (.iload_n 1, 1) := by decide +kernel
theorem dX11_laysParts_73 : decode cX11_laysParts 73 = .ok (.iaload, 1) := by decide +kernel
theorem dX11_laysParts_74 : decode cX11_laysParts 74 = .ok (.iastore, 1) := by decide +kernel
theorem dX11_laysParts_75 : decode cX11_laysParts 75 = .ok (.iinc 1 1, 3) := by decide +kernel
theorem dX11_laysParts_78 : decode cX11_laysParts 78 = .ok (.goto (-47), 3) := by decide +kernel
theorem dX11_laysParts_81 : decode cX11_laysParts 81 = .ok (.iconst 0, 1) := by decide +kernel
theorem dX11_laysParts_82 : decode cX11_laysParts 82 = .ok (.istore_n 1, 1) := by decide +kernel
theorem dX11_laysParts_83 : decode cX11_laysParts 83 = .ok (.iload_n 1, 1) := by decide +kernel
theorem dX11_laysParts_84 : decode cX11_laysParts 84 = .ok (.aload_n 0, 1) := by decide +kernel
theorem dX11_laysParts_85 : decode cX11_laysParts 85 = .ok (.invokevirtual 278, 3) := by decide +kernel
theorem dX11_laysParts_88 : decode cX11_laysParts 88 = .ok (.if_icmp .ge 117, 3) := by decide +kernel
theorem dX11_laysParts_91 : decode cX11_laysParts 91 = .ok (.aload_n 0, 1) := by decide +kernel
theorem dX11_laysParts_92 : decode cX11_laysParts 92 = .ok (.getfield 43, 3) := by decide +kernel
theorem dX11_laysParts_95 : decode cX11_laysParts 95 = .ok (.iload_n 1, 1) := by decide +kernel
theorem dX11_laysParts_96 : decode cX11_laysParts 96 = .ok (.iaload, 1) := by decide +kernel
theorem dX11_laysParts_97 : decode cX11_laysParts 97 = .ok (.istore_n 2, 1) := by decide +kernel
theorem dX11_laysParts_98 : decode cX11_laysParts 98 = .ok (.iconst 0, 1) := by decide +kernel
theorem dX11_laysParts_99 : decode cX11_laysParts 99 = .ok (.istore_n 3, 1) := by decide +kernel
theorem dX11_laysParts_100 : decode cX11_laysParts 100 = .ok (.iload_n 3, 1) := by decide +kernel
theorem dX11_laysParts_101 : decode cX11_laysParts 101 = .ok (.aload_n 0, 1) := by decide +kernel
theorem dX11_laysParts_102 : decode cX11_laysParts 102 = .ok (.invokevirtual 278, 3) := by decide +kernel
theorem dX11_laysParts_105 : decode cX11_laysParts 105 = .ok (.if_icmp .ge 94, 3) := by decide +kernel
theorem dX11_laysParts_108 : decode cX11_laysParts 108 = .ok (.aload_n 0, 1) := by decide +kernel
theorem dX11_laysParts_109 : decode cX11_laysParts 109 = .ok (.getfield 43, 3) := by decide +kernel
theorem dX11_laysParts_112 : decode cX11_laysParts 112 = .ok (.iload_n 3, 1) := by decide +kernel
theorem dX11_laysParts_113 : decode cX11_laysParts 113 = .ok (.iaload, 1) := by decide +kernel
theorem dX11_laysParts_114 : decode cX11_laysParts 114 = .ok (.istore 4, 2) := by decide +kernel
theorem dX11_laysParts_116 : decode cX11_laysParts 116 = .ok (.aload_n 0, 1) := by decide +kernel
theorem dX11_laysParts_117 : decode cX11_laysParts 117 = .ok (.iload 4, 2) := by decide +kernel
theorem dX11_laysParts_119 : decode cX11_laysParts 119 = .ok (.iconst 1, 1) := by decide +kernel
theorem dX11_laysParts_120 : decode cX11_laysParts 120 = .ok (.invokevirtual 289, 3) := by decide +kernel
theorem dX11_laysParts_123 : decode cX11_laysParts 123 = .ok (.aload_n 0, 1) := by decide +kernel
theorem dX11_laysParts_124 : decode cX11_laysParts 124 = .ok (.iload_n 2, 1) := by decide +kernel
theorem dX11_laysParts_125 : decode cX11_laysParts 125 = .ok (.iconst 0, 1) := by decide +kernel
theorem dX11_laysParts_126 : decode cX11_laysParts 126 = .ok (.invokevirtual 289, 3) := by decide +kernel
theorem dX11_laysParts_129 : decode cX11_laysParts 129 = .ok (.if_icmp .eq 6, 3) := by decide +kernel
theorem dX11_laysParts_132 : decode cX11_laysParts 132 = .ok (.goto 61, 3) := by decide +kernel
theorem dX11_laysParts_135 : decode cX11_laysParts 135 = .ok (.aload_n 0, 1) := by decide +kernel
theorem dX11_laysParts_136 : decode cX11_laysParts 136 = .ok (.getfield 61, 3) := by decide +kernel
theorem dX11_laysParts_139 : decode cX11_laysParts 139 = .ok (.iload_n 2, 1) := by decide +kernel
theorem dX11_laysParts_140 : decode cX11_laysParts 140 = .ok (.iaload, 1) := by decide +kernel
theorem dX11_laysParts_141 : decode cX11_laysParts 141 = .ok (.aload_n 0, 1) := by decide +kernel
theorem dX11_laysParts_142 : decode cX11_laysParts 142 = .ok (.getfield 64, 3) := by decide +kernel
theorem dX11_laysParts_145 : decode cX11_laysParts 145 = .ok (.iload 4, 2) := by decide +kernel
theorem dX11_laysParts_147 : decode cX11_laysParts 147 = .ok (.iaload, 1) := by decide +kernel
theorem dX11_laysParts_148 : decode cX11_laysParts 148 = .ok (.invokestatic 320, 3) := by decide +kernel
theorem dX11_laysParts_151 : decode cX11_laysParts 151 = .ok (.istore 5, 2) := by decide +kernel
theorem dX11_laysParts_153 : decode cX11_laysParts 153 = .ok (.aload_n 0, 1) := by decide +kernel
theorem dX11_laysParts_154 : decode cX11_laysParts 154 = .ok (.getfield 55, 3) := by decide +kernel
theorem dX11_laysParts_157 : decode cX11_laysParts 157 = .ok (.bipush 24, 2) := by decide +kernel
theorem dX11_laysParts_159 : decode cX11_laysParts 159 = .ok (.iload_n 2, 1) := by decide +kernel
theorem dX11_laysParts_160 : decode cX11_laysParts 160 = .ok (.imul, 1) := by decide +kernel
theorem dX11_laysParts_161 : decode cX11_laysParts 161 = .ok (.iload 4, 2) := by decide +kernel
theorem dX11_laysParts_163 : decode cX11_laysParts 163 = .ok (.iadd, 1) := by decide +kernel
theorem dX11_laysParts_164 : decode cX11_laysParts 164 = .ok (.dup2, 1) := by decide +kernel
theorem dX11_laysParts_165 : decode cX11_laysParts 165 = .ok (.iaload, 1) := by decide +kernel
theorem dX11_laysParts_166 : decode cX11_laysParts 166 = .ok (.iload 5, 2) := by decide +kernel
theorem dX11_laysParts_168 : decode cX11_laysParts 168 = .ok (.iadd, 1) := by decide +kernel
theorem dX11_laysParts_169 : decode cX11_laysParts 169 = .ok (.iastore, 1) := by decide +kernel
theorem dX11_laysParts_170 : decode cX11_laysParts 170 = .ok (.aload_n 0, 1) := by decide +kernel
theorem dX11_laysParts_171 : decode cX11_laysParts 171 = .ok (.getfield 61, 3) := by decide +kernel
theorem dX11_laysParts_174 : decode cX11_laysParts 174 = .ok (.iload_n 2, 1) := by decide +kernel
theorem dX11_laysParts_175 : decode cX11_laysParts 175 = .ok (.dup2, 1) := by decide +kernel
theorem dX11_laysParts_176 : decode cX11_laysParts 176 = .ok (.iaload, 1) := by decide +kernel
theorem dX11_laysParts_177 : decode cX11_laysParts 177 = .ok (.iload 5, 2) := by decide +kernel
theorem dX11_laysParts_179 : decode cX11_laysParts 179 = .ok (.isub, 1) := by decide +kernel
theorem dX11_laysParts_180 : decode cX11_laysParts 180 = .ok (.iastore, 1) := by decide +kernel
theorem dX11_laysParts_181 : decode cX11_laysParts 181 = .ok (.aload_n 0, 1) := by decide +kernel
theorem dX11_laysParts_182 : decode cX11_laysParts 182 = .ok (.getfield 64, 3) := by decide +kernel
theorem dX11_laysParts_185 : decode cX11_laysParts 185 = .ok (.iload 4, 2) := by decide +kernel
theorem dX11_laysParts_187 : decode cX11_laysParts 187 = .ok (.dup2, 1) := by decide +kernel
theorem dX11_laysParts_188 : decode cX11_laysParts 188 = .ok (.iaload, 1) := by decide +kernel
theorem dX11_laysParts_189 : decode cX11_laysParts 189 = .ok (.iload 5, 2) := by decide +kernel
theorem dX11_laysParts_191 : decode cX11_laysParts 191 = .ok (.isub, 1) := by decide +kernel
theorem dX11_laysParts_192 : decode cX11_laysParts 192 = .ok (.iastore, 1) := by decide +kernel
theorem dX11_laysParts_193 : decode cX11_laysParts 193 = .ok (.iinc 3 1, 3) := by decide +kernel
theorem dX11_laysParts_196 : decode cX11_laysParts 196 = .ok (.goto (-96), 3) := by decide +kernel
theorem dX11_laysParts_199 : decode cX11_laysParts 199 = .ok (.iinc 1 1, 3) := by decide +kernel
theorem dX11_laysParts_202 : decode cX11_laysParts 202 = .ok (.goto (-119), 3) := by decide +kernel
theorem dX11_laysParts_205 : decode cX11_laysParts 205 = .ok (.return_, 1) := by decide +kernel
theorem dX11_partAt_0 : decode cX11_partAt 0 = .ok (.iload_n 2, 1) := by decide +kernel
theorem dX11_partAt_1 : decode cX11_partAt 1 = .ok (.istore_n 3, 1) := by decide +kernel
theorem dX11_partAt_2 : decode cX11_partAt 2 = .ok (.iconst 0, 1) := by decide +kernel
theorem dX11_partAt_3 : decode cX11_partAt 3 = .ok (.istore 4, 2) := by decide +kernel
theorem dX11_partAt_5 : decode cX11_partAt 5 = .ok (.iload 4, 2) := by decide +kernel
theorem dX11_partAt_7 : decode cX11_partAt 7 = .ok (.aload_n 0, 1) := by decide +kernel
theorem dX11_partAt_8 : decode cX11_partAt 8 = .ok (.invokevirtual 278, 3) := by decide +kernel
theorem dX11_partAt_11 : decode cX11_partAt 11 = .ok (.if_icmp .ge 47, 3) := by decide +kernel
theorem dX11_partAt_14 : decode cX11_partAt 14 = .ok (.aload_n 0, 1) := by decide +kernel
theorem dX11_partAt_15 : decode cX11_partAt 15 = .ok (.getfield 55, 3) := by decide +kernel
theorem dX11_partAt_18 : decode cX11_partAt 18 = .ok (.bipush 24, 2) := by decide +kernel
theorem dX11_partAt_20 : decode cX11_partAt 20 = .ok (.iload_n 1, 1) := by decide +kernel
theorem dX11_partAt_21 : decode cX11_partAt 21 = .ok (.imul, 1) := by decide +kernel
theorem dX11_partAt_22 : decode cX11_partAt 22 = .ok (.aload_n 0, 1) := by decide +kernel
theorem dX11_partAt_23 : decode cX11_partAt 23 = .ok (.getfield 43, 3) := by decide +kernel
theorem dX11_partAt_26 : decode cX11_partAt 26 = .ok (.iload 4, 2) := by decide +kernel
theorem dX11_partAt_28 : decode cX11_partAt 28 = .ok (.iaload, 1) := by decide +kernel
theorem dX11_partAt_29 : decode cX11_partAt 29 = .ok (.iadd, 1) := by decide +kernel
theorem dX11_partAt_30 : decode cX11_partAt 30 = .ok (.iaload, 1) := by decide +kernel
theorem dX11_partAt_31 : decode cX11_partAt 31 = .ok (.ifCond .ne 6, 3) := by decide +kernel
