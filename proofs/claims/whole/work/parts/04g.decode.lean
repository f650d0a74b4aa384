theorem dX11_relaxes_46 : decode cX11_relaxes 46 = .ok (.iaload, 1) := by decide +kernel
theorem dX11_relaxes_47 : decode cX11_relaxes 47 = .ok (.istore 6, 2) := by decide +kernel
theorem dX11_relaxes_49 : decode cX11_relaxes 49 = .ok (.iload_n 2, 1) := by decide +kernel
theorem dX11_relaxes_50 : decode cX11_relaxes 50 = .ok (.ifCond .eq 12, 3) := by decide +kernel
theorem dX11_relaxes_53 : decode cX11_relaxes 53 = .ok (.aload_n 0, 1) := by decide +kernel
theorem dX11_relaxes_54 : decode cX11_relaxes 54 = .ok (.getfield 71, 3) := by decide +kernel
theorem dX11_relaxes_57 : decode cX11_relaxes 57 = .ok (.iload_n 1, 1) := by decide +kernel
theorem dX11_relaxes_58 : decode cX11_relaxes 58 = .ok (.iaload, 1) := by decide +kernel
theorem dX11_relaxes_59 : decode cX11_relaxes 59 = .ok (.goto 9, 3) := by decide +kernel
theorem dX11_relaxes_62 : decode cX11_relaxes 62 = .ok (.aload_n 0, 1) := by decide +kernel
theorem dX11_relaxes_63 : decode cX11_relaxes 63 = .ok (.getfield 74, 3) := by decide +kernel
theorem dX11_relaxes_66 : decode cX11_relaxes 66 = .ok (.iload_n 1, 1) := by decide +kernel
theorem dX11_relaxes_67 : decode cX11_relaxes 67 = .ok (.iaload, 1) := by decide +kernel
theorem dX11_relaxes_68 : decode cX11_relaxes 68 = .ok (.istore 7, 2) := by decide +kernel
theorem dX11_relaxes_70 : decode cX11_relaxes 70 = .ok (.aload_n 0, 1) := by decide +kernel
theorem dX11_relaxes_71 : decode cX11_relaxes 71 = .ok (.getfield 89, 3) := by decide +kernel
theorem dX11_relaxes_74 : decode cX11_relaxes 74 = .ok (.iload 6, 2) := by decide +kernel
theorem dX11_relaxes_76 : decode cX11_relaxes 76 = .ok (.laload, 1) := by decide +kernel
theorem dX11_relaxes_77 : decode cX11_relaxes 77 = .ok (.iload_n 2, 1) := by decide +kernel
theorem dX11_relaxes_78 : decode cX11_relaxes 78 = .ok (.ifCond .eq 13, 3) := by decide +kernel
theorem dX11_relaxes_81 : decode cX11_relaxes 81 = .ok (.aload_n 0, 1) := by decide +kernel
theorem dX11_relaxes_82 : decode cX11_relaxes 82 = .ok (.getfield 86, 3) := by decide +kernel
theorem dX11_relaxes_85 : decode cX11_relaxes 85 = .ok (.iload_n 1, 1) := by decide +kernel
theorem dX11_relaxes_86 : decode cX11_relaxes 86 = .ok (.laload, 1) := by decide +kernel
theorem dX11_relaxes_87 : decode cX11_relaxes 87 = .ok (.lneg, 1) := by decide +kernel
theorem dX11_relaxes_88 : decode cX11_relaxes 88 = .ok (.goto 9, 3) := by decide +kernel
theorem dX11_relaxes_91 : decode cX11_relaxes 91 = .ok (.aload_n 0, 1) := by decide +kernel
theorem dX11_relaxes_92 : decode cX11_relaxes 92 = .ok (.getfield 86, 3) := by decide +kernel
theorem dX11_relaxes_95 : decode cX11_relaxes 95 = .ok (.iload_n 1, 1) := by decide +kernel
theorem dX11_relaxes_96 : decode cX11_relaxes 96 = .ok (.laload, 1) := by decide +kernel
theorem dX11_relaxes_97 : decode cX11_relaxes 97 = .ok (.ladd, 1) := by decide +kernel
theorem dX11_relaxes_98 : decode cX11_relaxes 98 = .ok (.lstore 8, 2) := by decide +kernel
theorem dX11_relaxes_100 : decode cX11_relaxes 100 = .ok (.lload 4, 2) := by decide +kernel
theorem dX11_relaxes_102 : decode cX11_relaxes 102 = .ok (.lconst 0, 1) := by decide +kernel
theorem dX11_relaxes_103 : decode cX11_relaxes 103 = .ok (.lcmp, 1) := by decide +kernel
theorem dX11_relaxes_104 : decode cX11_relaxes 104 = .ok (.ifCond .eq 16, 3) := by decide +kernel
theorem dX11_relaxes_107 : decode cX11_relaxes 107 = .ok (.lload 8, 2) := by decide +kernel
theorem dX11_relaxes_109 : decode cX11_relaxes 109 = .ok (.aload_n 0, 1) := by decide +kernel
theorem dX11_relaxes_110 : decode cX11_relaxes 110 = .ok (.getfield 89, 3) := by decide +kernel
theorem dX11_relaxes_113 : decode cX11_relaxes 113 = .ok (.iload 7, 2) := by decide +kernel
theorem dX11_relaxes_115 : decode cX11_relaxes 115 = .ok (.laload, 1) := by decide +kernel
theorem dX11_relaxes_116 : decode cX11_relaxes 116 = .ok (.lcmp, 1) := by decide +kernel
theorem dX11_relaxes_117 : decode cX11_relaxes 117 = .ok (.ifCond .gt 5, 3) := by decide +kernel
theorem dX11_relaxes_120 : decode cX11_relaxes 120 = .ok (.iconst 0, 1) := by decide +kernel
theorem dX11_relaxes_121 : decode cX11_relaxes 121 = .ok (.ireturn, 1) := by decide +kernel
theorem dX11_relaxes_122 : decode cX11_relaxes 122 = .ok (.aload_n 0, 1) := by decide +kernel
theorem dX11_relaxes_123 : decode cX11_relaxes 123 = .ok (.getfield 89, 3) := by decide +kernel
theorem dX11_relaxes_126 : decode cX11_relaxes 126 = .ok (.iload 7, 2) := by decide +kernel
theorem dX11_relaxes_128 : decode cX11_relaxes 128 = .ok (.lload 8, 2) := by decide +kernel
theorem dX11_relaxes_130 : decode cX11_relaxes 130 = .ok (.lastore, 1) := by decide +kernel
theorem dX11_relaxes_131 : decode cX11_relaxes 131 = .ok (.aload_n 3, 1) := by decide +kernel
theorem dX11_relaxes_132 : decode cX11_relaxes 132 = .ok (.iload 7, 2) := by decide +kernel
theorem dX11_relaxes_134 : decode cX11_relaxes 134 = .ok (.iload_n 2, 1) := by decide +kernel
theorem dX11_relaxes_135 : decode cX11_relaxes 135 = .ok (.ifCond .eq 10, 3) := by decide +kernel
theorem dX11_relaxes_138 : decode cX11_relaxes 138 = .ok (.iload_n 1, 1) := by decide +kernel
theorem dX11_relaxes_139 : decode cX11_relaxes 139 = .ok (.ineg, 1) := by decide +kernel
theorem dX11_relaxes_140 : decode cX11_relaxes 140 = .ok (.iconst 1, 1) := by decide +kernel
theorem dX11_relaxes_141 : decode cX11_relaxes 141 = .ok (.isub, 1) := by decide +kernel
theorem dX11_relaxes_142 : decode cX11_relaxes 142 = .ok (.goto 6, 3) := by decide +kernel
theorem dX11_relaxes_145 : decode cX11_relaxes 145 = .ok (.iload_n 1, 1) := by decide +kernel
theorem dX11_relaxes_146 : decode cX11_relaxes 146 = .ok (.iconst 1, 1) := by decide +kernel
theorem dX11_relaxes_147 : decode cX11_relaxes 147 = .ok (.iadd, 1) := by decide +kernel
theorem dX11_relaxes_148 : decode cX11_relaxes 148 = .ok (.iastore, 1) := by decide +kernel
theorem dX11_relaxes_149 : decode cX11_relaxes 149 = .ok (.iconst 1, 1) := by decide +kernel
theorem dX11_relaxes_150 : decode cX11_relaxes 150 = .ok (.ireturn, 1) := by decide +kernel
theorem dX11_behindOf_0 : decode cX11_behindOf 0 = .ok (.aload_n 0, 1) := by decide +kernel
theorem dX11_behindOf_1 : decode cX11_behindOf 1 = .ok (.getfield 77, 3) := by decide +kernel
theorem dX11_behindOf_4 : decode cX11_behindOf 4 = .ok (.iload_n 1, 1) := by decide +kernel
theorem dX11_behindOf_5 : decode cX11_behindOf 5 = .ok (.iaload, 1) := by decide +kernel
theorem dX11_behindOf_6 : decode cX11_behindOf 6 = .ok (.istore_n 2, 1) := by decide +kernel
theorem dX11_behindOf_7 : decode cX11_behindOf 7 = .ok (.iload_n 2, 1) := by decide +kernel
theorem dX11_behindOf_8 : decode cX11_behindOf 8 = .ok (.ifCond .le 14, 3) := by decide +kernel
theorem dX11_behindOf_11 : decode cX11_behindOf 11 = .ok (.aload_n 0, 1) := by decide +kernel
theorem dX11_behindOf_12 : decode cX11_behindOf 12 = .ok (.getfield 71, 3) := by decide +kernel
theorem dX11_behindOf_15 : decode cX11_behindOf 15 = .ok (.iload_n 2, 1) := by decide +kernel
theorem dX11_behindOf_16 : decode cX11_behindOf 16 = .ok (.iconst 1, 1) := by decide +kernel
theorem dX11_behindOf_17 : decode cX11_behindOf 17 = .ok (.isub, 1) := by decide +kernel
theorem dX11_behindOf_18 : decode cX11_behindOf 18 = .ok (.iaload, 1) := by decide +kernel
theorem dX11_behindOf_19 : decode cX11_behindOf 19 = .ok (.goto 12, 3) := by decide +kernel
theorem dX11_behindOf_22 : decode cX11_behindOf 22 = .ok (.aload_n 0, 1) := by decide +kernel
theorem dX11_behindOf_23 : decode cX11_behindOf 23 = .ok (.getfield 74, 3) := by decide +kernel
theorem dX11_behindOf_26 : decode cX11_behindOf 26 = .ok (.iload_n 2, 1) := by decide +kernel
theorem dX11_behindOf_27 : decode cX11_behindOf 27 = .ok (.ineg, 1) := by decide +kernel
theorem dX11_behindOf_28 : decode cX11_behindOf 28 = .ok (.iconst 1, 1) := by decide +kernel
theorem dX11_behindOf_29 : decode cX11_behindOf 29 = .ok (.isub, 1) := by decide +kernel
theorem dX11_behindOf_30 : decode cX11_behindOf 30 = .ok (.iaload, 1) := by decide +kernel
theorem dX11_behindOf_31 : decode cX11_behindOf 31 = .ok (.ireturn, 1) := by decide +kernel
theorem dX11_gaining_0 : decode cX11_gaining 0 = .ok (.iconst 0, 1) := by decide +kernel
theorem dX11_gaining_1 : decode cX11_gaining 1 = .ok (.istore_n 1, 1) := by decide +kernel
theorem dX11_gaining_2 : decode cX11_gaining 2 = .ok (.iload_n 1, 1) := by decide +kernel
theorem dX11_gaining_3 : decode cX11_gaining 3 = .ok (.bipush 9, 2) := by decide +kernel
theorem dX11_gaining_5 : decode cX11_gaining 5 = .ok (.if_icmp .ge 23, 3) := by decide +kernel
theorem dX11_gaining_8 : decode cX11_gaining 8 = .ok (.aload_n 0, 1) := by decide +kernel
theorem dX11_gaining_9 : decode cX11_gaining 9 = .ok (.getfield 89, 3) := by decide +kernel
theorem dX11_gaining_12 : decode cX11_gaining 12 = .ok (.iload_n 1, 1) := by decide +kernel
theorem dX11_gaining_13 : decode cX11_gaining 13 = .ok (.lconst 0, 1) := by decide +kernel
theorem dX11_gaining_14 : decode cX11_gaining 14 = .ok (.lastore, 1) := by decide +kernel
theorem dX11_gaining_15 : decode cX11_gaining 15 = .ok (.aload_n 0, 1) := by decide +kernel
theorem dX11_gaining_16 : decode cX11_gaining 16 = .ok (.getfield 77, 3) := by decide +kernel
theorem dX11_gaining_19 : decode cX11_gaining 19 = .ok (.iload_n 1, 1) := by decide +kernel
theorem dX11_gaining_20 : decode cX11_gaining 20 = .ok (.iconst 0, 1) := by decide +kernel
theorem dX11_gaining_21 : decode cX11_gaining 21 = .ok (.iastore, 1) := by decide +kernel
theorem dX11_gaining_22 : decode cX11_gaining 22 = .ok (.iinc 1 1, 3) := by decide +kernel
theorem dX11_gaining_25 : decode cX11_gaining 25 = .ok (.goto (-23), 3) := by decide +kernel
theorem dX11_gaining_28 : decode cX11_gaining 28 = .ok (.iconst (-1), 1) := by decide +kernel
theorem dX11_gaining_29 : decode cX11_gaining 29 = .ok (.istore_n 1, 1) := by decide +kernel
theorem dX11_gaining_30 : decode cX11_gaining 30 = .ok (.iconst 0, 1) := by decide +kernel
theorem dX11_gaining_31 : decode cX11_gaining 31 = .ok (.istore_n 2, 1) := by decide +kernel
theorem dX11_gaining_32 : decode cX11_gaining 32 = .ok (.iload_n 2, 1) := by decide +kernel
theorem dX11_gaining_33 : decode cX11_gaining 33 = .ok (.bipush 9, 2) := by decide +kernel
theorem dX11_gaining_35 : decode cX11_gaining 35 = .ok (.if_icmp .gt 74, 3) := by decide +kernel
theorem dX11_gaining_38 : decode cX11_gaining 38 = .ok (.iconst (-1), 1) := by decide +kernel
theorem dX11_gaining_39 : decode cX11_gaining 39 = .ok (.istore_n 1, 1) := by decide +kernel
theorem dX11_gaining_40 : decode cX11_gaining 40 = .ok (.iconst 0, 1) := by decide +kernel
theorem dX11_gaining_41 : decode cX11_gaining 41 = .ok (.istore_n 3, 1) := by decide +kernel
theorem dX11_gaining_42 : decode cX11_gaining 42 = .ok (.iload_n 3, 1) := by decide +kernel
theorem dX11_gaining_43 : decode cX11_gaining 43 = .ok (.aload_n 0, 1) := by decide +kernel
theorem dX11_gaining_44 : decode cX11_gaining 44 = .ok (.getfield 396, 3) := by decide +kernel
theorem dX11_gaining_47 : decode cX11_gaining 47 = .ok (.if_icmp .ge 49, 3) := by decide +kernel
theorem dX11_gaining_50 : decode cX11_gaining 50 = .ok (.aload_n 0, 1) := by decide +kernel
theorem dX11_gaining_51 : decode cX11_gaining 51 = .ok (.iload_n 3, 1) := by decide +kernel
theorem dX11_gaining_52 : decode cX11_gaining 52 = .ok (.iconst 0, 1) := by decide +kernel
theorem dX11_gaining_53 : decode cX11_gaining 53 = .ok (.aload_n 0, 1) := by decide +kernel
theorem dX11_gaining_54 : decode cX11_gaining 54 = .ok (.getfield 77, 3) := by decide +kernel
theorem dX11_gaining_57 : decode cX11_gaining 57 = .ok (.invokevirtual 405, 3) := by decide +kernel
theorem dX11_gaining_60 : decode cX11_gaining 60 = .ok (.ifCond .eq 10, 3) := by decide +kernel
theorem dX11_gaining_63 : decode cX11_gaining 63 = .ok (.aload_n 0, 1) := by decide +kernel
theorem dX11_gaining_64 : decode cX11_gaining 64 = .ok (.getfield 74, 3) := by decide +kernel
theorem dX11_gaining_67 : decode cX11_gaining 67 = .ok (.iload_n 3, 1) := by decide +kernel
theorem dX11_gaining_68 : decode cX11_gaining 68 = .ok (.iaload, 1) := by decide +kernel
theorem dX11_gaining_69 : decode cX11_gaining 69 = .ok (.istore_n 1, 1) := by decide +kernel
theorem dX11_gaining_70 : decode cX11_gaining 70 = .ok (.aload_n 0, 1) := by decide +kernel
theorem dX11_gaining_71 : decode cX11_gaining 71 = .ok (.iload_n 3, 1) := by decide +kernel
theorem dX11_gaining_72 : decode cX11_gaining 72 = .ok (.iconst 1, 1) := by decide +kernel
theorem dX11_gaining_73 : decode cX11_gaining 73 = .ok (.aload_n 0, 1) := by decide +kernel
theorem dX11_gaining_74 : decode cX11_gaining 74 = .ok (.getfield 77, 3) := by decide +kernel
theorem dX11_gaining_77 : decode cX11_gaining 77 = .ok (.invokevirtual 405, 3) := by decide +kernel
theorem dX11_gaining_80 : decode cX11_gaining 80 = .ok (.ifCond .eq 10, 3) := by decide +kernel
theorem dX11_gaining_83 : decode cX11_gaining 83 = .ok (.aload_n 0, 1) := by decide +kernel
theorem dX11_gaining_84 : decode cX11_gaining 84 = .ok (.getfield 71, 3) := by decide +kernel
theorem dX11_gaining_87 : decode cX11_gaining 87 = .ok (.iload_n 3, 1) := by decide +kernel
theorem dX11_gaining_88 : decode cX11_gaining 88 = .ok (.iaload, 1) := by decide +kernel
theorem dX11_gaining_89 : decode cX11_gaining 89 = .ok (.istore_n 1, 1) := by decide +kernel
theorem dX11_gaining_90 : decode cX11_gaining 90 = .ok (.iinc 3 1, 3) := by decide +kernel
theorem dX11_gaining_93 : decode cX11_gaining 93 = .ok (.goto (-51), 3) := by decide +kernel
theorem dX11_gaining_96 : decode cX11_gaining 96 = .ok (.iload_n 1, 1) := by decide +kernel
theorem dX11_gaining_97 : decode cX11_gaining 97 = .ok (.iconst (-1), 1) := by decide +kernel
theorem dX11_gaining_98 : decode cX11_gaining 98 = .ok (.if_icmp .ne 5, 3) := by decide +kernel
theorem dX11_gaining_101 : decode cX11_gaining 101 = .ok (.iconst (-1), 1) := by decide +kernel
theorem dX11_gaining_102 : decode cX11_gaining 102 = .ok (.ireturn, 1) := by decide +kernel
theorem dX11_gaining_103 : decode cX11_gaining 103 = .ok (.iinc 2 1, 3) := by decide +kernel
theorem dX11_gaining_106 : decode cX11_gaining 106 = .ok (.goto (-74), 3) := by decide +kernel
theorem dX11_gaining_109 : decode cX11_gaining 109 = .ok (.iconst 0, 1) := by decide +kernel
theorem dX11_gaining_110 : decode cX11_gaining 110 = .ok (.istore_n 2, 1) := by decide +kernel
theorem dX11_gaining_111 : decode cX11_gaining 111 = .ok (.iload_n 2, 1) := by decide +kernel
theorem dX11_gaining_112 : decode cX11_gaining 112 = .ok (.bipush 9, 2) := by decide +kernel
theorem dX11_gaining_114 : decode cX11_gaining 114 = .ok (.if_icmp .ge 15, 3) := by decide +kernel
theorem dX11_gaining_117 : decode cX11_gaining 117 = .ok (.aload_n 0, 1) := by decide +kernel
theorem dX11_gaining_118 : decode cX11_gaining 118 = .ok (.iload_n 1, 1) := by decide +kernel
theorem dX11_gaining_119 : decode cX11_gaining 119 = .ok (.invokevirtual 409, 3) := by decide +kernel
theorem dX11_gaining_122 : decode cX11_gaining 122 = .ok (.istore_n 1, 1) := by decide +kernel
theorem dX11_gaining_123 : decode cX11_gaining 123 = .ok (.iinc 2 1, 3) := by decide +kernel
theorem dX11_gaining_126 : decode cX11_gaining 126 = .ok (.goto (-15), 3) := by decide +kernel
theorem dX11_gaining_129 : decode cX11_gaining 129 = .ok (.iload_n 1, 1) := by decide +kernel
theorem dX11_gaining_130 : decode cX11_gaining 130 = .ok (.ireturn, 1) := by decide +kernel
theorem dX11_goesRound_0 : decode cX11_goesRound 0 = .ok (.ldc2_w 414, 3) := by decide +kernel
theorem dX11_goesRound_3 : decode cX11_goesRound 3 = .ok (.lstore_n 2, 1) := by decide +kernel
theorem dX11_goesRound_4 : decode cX11_goesRound 4 = .ok (.iload_n 1, 1) := by decide +kernel
theorem dX11_goesRound_5 : decode cX11_goesRound 5 = .ok (.istore 4, 2) := by decide +kernel
theorem dX11_goesRound_7 : decode cX11_goesRound 7 = .ok (.aload_n 0, 1) := by decide +kernel
theorem dX11_goesRound_8 : decode cX11_goesRound 8 = .ok (.getfield 77, 3) := by decide +kernel
theorem dX11_goesRound_11 : decode cX11_goesRound 11 = .ok (.iload 4, 2) := by decide +kernel
theorem dX11_goesRound_13 : decode cX11_goesRound 13 = .ok (.iaload, 1) := by decide +kernel
theorem dX11_goesRound_14 : decode cX11_goesRound 14 = .ok (.istore 5, 2) := by decide +kernel
theorem dX11_goesRound_16 : decode cX11_goesRound 16 = .ok (.lload_n 2, 1) := by decide +kernel
theorem dX11_goesRound_17 : decode cX11_goesRound 17 = .ok (.iload 5, 2) := by decide +kernel
theorem dX11_goesRound_19 : decode cX11_goesRound 19 = .ok (.ifCond .le 25, 3) := by decide +kernel
theorem dX11_goesRound_22 : decode cX11_goesRound 22 = .ok (.aload_n 0, 1) := by decide +kernel
theorem dX11_goesRound_23 : decode cX11_goesRound 23 = .ok (.getfield 80, 3) := by decide +kernel
theorem dX11_goesRound_26 : decode cX11_goesRound 26 = .ok (.iload 5, 2) := by decide +kernel
theorem dX11_goesRound_28 : decode cX11_goesRound 28 = .ok (.iconst 1, 1) := by decide +kernel
theorem dX11_goesRound_29 : decode cX11_goesRound 29 = .ok (.isub, 1) := by decide +kernel
theorem dX11_goesRound_30 : decode cX11_goesRound 30 = .ok (.laload, 1) := by decide +kernel
theorem dX11_goesRound_31 : decode cX11_goesRound 31 = .ok (.aload_n 0, 1) := by decide +kernel
theorem dX11_goesRound_32 : decode cX11_goesRound 32 = .ok (.getfield 83, 3) := by decide +kernel
theorem dX11_goesRound_35 : decode cX11_goesRound 35 = .ok (.iload 5, 2) := by decide +kernel
theorem dX11_goesRound_37 : decode cX11_goesRound 37 = .ok (.iconst 1, 1) := by decide +kernel
theorem dX11_goesRound_38 : decode cX11_goesRound 38 = .ok (.isub, 1) := by decide +kernel
theorem dX11_goesRound_39 : decode cX11_goesRound 39 = .ok (.laload, 1) := by decide +kernel
theorem dX11_goesRound_40 : decode cX11_goesRound 40 = .ok (.lsub, 1) := by decide +kernel
theorem dX11_goesRound_41 : decode cX11_goesRound 41 = .ok (.goto 13, 3) := by decide +kernel
theorem dX11_goesRound_44 : decode cX11_goesRound 44 = .ok (.aload_n 0, 1) := by decide +kernel
theorem dX11_goesRound_45 : decode cX11_goesRound 45 = .ok (.getfield 83, 3) := by decide +kernel
theorem dX11_goesRound_48 : decode cX11_goesRound 48 = .ok (.iload 5, 2) := by decide +kernel
theorem dX11_goesRound_50 : decode cX11_goesRound 50 = .ok (.ineg, 1) := by decide +kernel
theorem dX11_goesRound_51 : decode cX11_goesRound 51 = .ok (.iconst 1, 1) := by decide +kernel
theorem dX11_goesRound_52 : decode cX11_goesRound 52 = .ok (.isub, 1) := by decide +kernel
theorem dX11_goesRound_53 : decode cX11_goesRound 53 = .ok (.laload, 1) := by decide +kernel
theorem dX11_goesRound_54 : decode cX11_goesRound 54 = .ok (.invokestatic 158, 3) := by decide +kernel
theorem dX11_goesRound_57 : decode cX11_goesRound 57 = .ok (.lstore_n 2, 1) := by decide +kernel
theorem dX11_goesRound_58 : decode cX11_goesRound 58 = .ok (.aload_n 0, 1) := by decide +kernel
theorem dX11_goesRound_59 : decode cX11_goesRound 59 = .ok (.iload 4, 2) := by decide +kernel
theorem dX11_goesRound_61 : decode cX11_goesRound 61 = .ok (.invokevirtual 409, 3) := by decide +kernel
theorem dX11_goesRound_64 : decode cX11_goesRound 64 = .ok (.istore 4, 2) := by decide +kernel
theorem dX11_goesRound_66 : decode cX11_goesRound 66 = .ok (.iload 4, 2) := by decide +kernel
theorem dX11_goesRound_68 : decode cX11_goesRound 68 = .ok (.iload_n 1, 1) := by decide +kernel
theorem dX11_goesRound_69 : decode cX11_goesRound 69 = .ok (.if_icmp .ne (-62), 3) := by decide +kernel
theorem dX11_goesRound_72 : decode cX11_goesRound 72 = .ok (.aload_n 0, 1) := by decide +kernel
theorem dX11_goesRound_73 : decode cX11_goesRound 73 = .ok (.getfield 77, 3) := by decide +kernel
theorem dX11_goesRound_76 : decode cX11_goesRound 76 = .ok (.iload 4, 2) := by decide +kernel
theorem dX11_goesRound_78 : decode cX11_goesRound 78 = .ok (.iaload, 1) := by decide +kernel
theorem dX11_goesRound_79 : decode cX11_goesRound 79 = .ok (.istore 5, 2) := by decide +kernel
theorem dX11_goesRound_81 : decode cX11_goesRound 81 = .ok (.iload 5, 2) := by decide +kernel
theorem dX11_goesRound_83 : decode cX11_goesRound 83 = .ok (.ifCond .le 19, 3) := by decide +kernel
theorem dX11_goesRound_86 : decode cX11_goesRound 86 = .ok (.aload_n 0, 1) := by decide +kernel
theorem dX11_goesRound_87 : decode cX11_goesRound 87 = .ok (.getfield 83, 3) := by decide +kernel
theorem dX11_goesRound_90 : decode cX11_goesRound 90 = .ok (.iload 5, 2) := by decide +kernel
theorem dX11_goesRound_92 : decode cX11_goesRound 92 = .ok (.iconst 1, 1) := by decide +kernel
theorem dX11_goesRound_93 : decode cX11_goesRound 93 = .ok (.isub, 1) := by decide +kernel
theorem dX11_goesRound_94 : decode cX11_goesRound 94 = .ok (.dup2, 1) := by decide +kernel
theorem dX11_goesRound_95 : decode cX11_goesRound 95 = .ok (.laload, 1) := by decide +kernel
theorem dX11_goesRound_96 : decode cX11_goesRound 96 = .ok (.lload_n 2, 1) := by decide +kernel
theorem dX11_goesRound_97 : decode cX11_goesRound 97 = .ok (.ladd, 1) := by decide +kernel
theorem dX11_goesRound_98 : decode cX11_goesRound 98 = .ok (.lastore, 1) := by decide +kernel
theorem dX11_goesRound_99 : decode cX11_goesRound 99 = .ok (.goto 17, 3) := by decide +kernel
theorem dX11_goesRound_102 : decode cX11_goesRound 102 = .ok (.aload_n 0, 1) := by decide +kernel
theorem dX11_goesRound_103 : decode cX11_goesRound 103 = .ok (.getfield 83, 3) := by decide +kernel
theorem dX11_goesRound_106 : decode cX11_goesRound 106 = .ok (.iload 5, 2) := by decide +kernel
theorem dX11_goesRound_108 : decode cX11_goesRound 108 = .ok (.ineg, 1) := by decide +kernel
theorem dX11_goesRound_109 : decode cX11_goesRound 109 = .ok (.iconst 1, 1) := by decide +kernel
theorem dX11_goesRound_110 : decode cX11_goesRound 110 = .ok (.isub, 1) := by decide +kernel
theorem dX11_goesRound_111 : decode cX11_goesRound 111 = .ok (.dup2, 1) := by decide +kernel
theorem dX11_goesRound_112 : decode cX11_goesRound 112 = .ok (.laload, 1) := by decide +kernel
theorem dX11_goesRound_113 : decode cX11_goesRound 113 = .ok (.lload_n 2, 1) := by decide +kernel
theorem dX11_goesRound_114 : decode cX11_goesRound 114 = .ok (.lsub, 1) := by decide +kernel
theorem dX11_goesRound_115 : decode cX11_goesRound 115 = .ok (.lastore, 1) := by decide +kernel
theorem dX11_goesRound_116 : decode cX11_goesRound 116 = .ok (.aload_n 0, 1) := by decide +kernel
theorem dX11_goesRound_117 : decode cX11_goesRound 117 = .ok (.iload 4, 2) := by decide +kernel
theorem dX11_goesRound_119 : decode cX11_goesRound 119 = .ok (.invokevirtual 409, 3) := by decide +kernel
theorem dX11_goesRound_122 : decode cX11_goesRound 122 = .ok (.istore 4, 2) := by decide +kernel
theorem dX11_goesRound_124 : decode cX11_goesRound 124 = .ok (.iload 4, 2) := by decide +kernel
theorem dX11_goesRound_126 : decode cX11_goesRound 126 = .ok (.iload_n 1, 1) := by decide +kernel
theorem dX11_goesRound_127 : decode cX11_goesRound 127 = .ok (.if_icmp .ne (-55), 3) := by decide +kernel
theorem dX11_goesRound_130 : decode cX11_goesRound 130 = .ok (.return_, 1) := by decide +kernel
theorem dX11_most_0 : decode cX11_most 0 = .ok (.aload_n 0, 1) := by decide +kernel
theorem dX11_most_1 : decode cX11_most 1 = .ok (.iconst 0, 1) := by decide +kernel
theorem dX11_most_2 : decode cX11_most 2 = .ok (.putfield 1, 3) := by decide +kernel
theorem dX11_most_5 : decode cX11_most 5 = .ok (.aload_n 0, 1) := by decide +kernel
theorem dX11_most_6 : decode cX11_most 6 = .ok (.iload_n 1, 1) := by decide +kernel
theorem dX11_most_7 : decode cX11_most 7 = .ok (.i2l, 1) := by decide +kernel
theorem dX11_most_8 : decode cX11_most 8 = .ok (.lconst 0, 1) := by decide +kernel
theorem dX11_most_9 : decode cX11_most 9 = .ok (.lconst 1, 1) := by decide +kernel
theorem dX11_most_10 : decode cX11_most 10 = .ok (.invokestatic 164, 3) := by decide +kernel
theorem dX11_most_13 : decode cX11_most 13 = .ok (.iconst 1, 1) := by decide +kernel
theorem dX11_most_14 : decode cX11_most 14 = .ok (.iconst 1, 1) := by decide +kernel
theorem dX11_most_15 : decode cX11_most 15 = .ok (.invokevirtual 264, 3) := by decide +kernel
theorem dX11_most_18 : decode cX11_most 18 = .ok (.ifCond .ne 5, 3) := by decide +kernel
theorem dX11_most_21 : decode cX11_most 21 = .ok (.lconst 0, 1) := by decide +kernel
theorem dX11_most_22 : decode cX11_most 22 = .ok (.lreturn, 1) := by decide +kernel
theorem dX11_most_23 : decode cX11_most 23 = .ok (.aload_n 0, 1) := by decide +kernel
theorem dX11_most_24 : decode cX11_most 24 = .ok (.iload_n 1, 1) := by decide +kernel
theorem dX11_most_25 : decode cX11_most 25 = .ok (.iconst 1, 1) := by decide +kernel
theorem dX11_most_26 : decode cX11_most 26 = .ok (.if_icmp .ne 7, 3) := by decide +kernel
theorem dX11_most_29 : decode cX11_most 29 = .ok (.iconst 1, 1) := by decide +kernel
theorem dX11_most_30 : decode cX11_most 30 = .ok (.goto 4, 3) := by decide +kernel
theorem dX11_most_33 : decode cX11_most 33 = .ok (.iconst 0, 1) := by decide +kernel
theorem dX11_most_34 : decode cX11_most 34 = .ok (.invokevirtual 416, 3) := by decide +kernel
theorem dX11_most_37 : decode cX11_most 37 = .ok (.aload_n 0, 1) := by decide +kernel
theorem dX11_most_38 : decode cX11_most 38 = .ok (.invokevirtual 420, 3) := by decide +kernel
theorem dX11_most_41 : decode cX11_most 41 = .ok (.istore_n 2, 1) := by decide +kernel
theorem dX11_most_42 : decode cX11_most 42 = .ok (.iload_n 2, 1) := by decide +kernel
theorem dX11_most_43 : decode cX11_most 43 = .ok (.iconst (-1), 1) := by decide +kernel
theorem dX11_most_44 : decode cX11_most 44 = .ok (.if_icmp .eq 16, 3) := by decide +kernel
theorem dX11_most_47 : decode cX11_most 47 = .ok (.aload_n 0, 1) := by decide +kernel
theorem dX11_most_48 : decode cX11_most 48 = .ok (.iload_n 2, 1) := by decide +kernel
theorem dX11_most_49 : decode cX11_most 49 = .ok (.invokevirtual 423, 3) := by decide +kernel
theorem dX11_most_52 : decode cX11_most 52 = .ok (.aload_n 0, 1) := by decide +kernel
theorem dX11_most_53 : decode cX11_most 53 = .ok (.invokevirtual 420, 3) := by decide +kernel
theorem dX11_most_56 : decode cX11_most 56 = .ok (.istore_n 2, 1) := by decide +kernel
theorem dX11_most_57 : decode cX11_most 57 = .ok (.goto (-15), 3) := by decide +kernel
theorem dX11_most_60 : decode cX11_most 60 = .ok (.lconst 0, 1) := by decide +kernel
theorem dX11_most_61 : decode cX11_most 61 = .ok (.lstore_n 2, 1) := by decide +kernel
theorem dX11_most_62 : decode cX11_most 62 = .ok (.iconst 0, 1) := by decide +kernel
theorem dX11_most_63 : decode cX11_most 63 = .ok (.istore 4, 2) := by decide +kernel
theorem dX11_most_65 : decode cX11_most 65 = .ok (.iload 4, 2) := by decide +kernel
theorem dX11_most_67 : decode cX11_most 67 = .ok (.aload_n 0, 1) := by decide +kernel
theorem dX11_most_68 : decode cX11_most 68 = .ok (.invokevirtual 278, 3) := by decide +kernel
theorem dX11_most_71 : decode cX11_most 71 = .ok (.if_icmp .ge 27, 3) := by decide +kernel
theorem dX11_most_74 : decode cX11_most 74 = .ok (.lload_n 2, 1) := by decide +kernel
theorem dX11_most_75 : decode cX11_most 75 = .ok (.aload_n 0, 1) := by decide +kernel
theorem dX11_most_76 : decode cX11_most 76 = .ok (.getfield 83, 3) := by decide +kernel
theorem dX11_most_79 : decode cX11_most 79 = .ok (.iload 4, 2) := by decide +kernel
theorem dX11_most_81 : decode cX11_most 81 = .ok (.laload, 1) := by decide +kernel
theorem dX11_most_82 : decode cX11_most 82 = .ok (.aload_n 0, 1) := by decide +kernel
theorem dX11_most_83 : decode cX11_most 83 = .ok (.getfield 86, 3) := by decide +kernel
theorem dX11_most_86 : decode cX11_most 86 = .ok (.iload 4, 2) := by decide +kernel
theorem dX11_most_88 : decode cX11_most 88 = .ok (.laload, 1) := by decide +kernel
theorem dX11_most_89 : decode cX11_most 89 = .ok (.lmul, 1) := by decide +kernel
theorem dX11_most_90 : decode cX11_most 90 = .ok (.ladd, 1) := by decide +kernel
theorem dX11_most_91 : decode cX11_most 91 = .ok (.lstore_n 2, 1) := by decide +kernel
theorem dX11_most_92 : decode cX11_most 92 = .ok (.iinc 4 1, 3) := by decide +kernel
theorem dX11_most_95 : decode cX11_most 95 = .ok (.goto (-30), 3) := by decide +kernel
theorem dX11_most_98 : decode cX11_most 98 = .ok (.lload_n 2, 1) := by decide +kernel
theorem dX11_most_99 : decode cX11_most 99 = .ok (.lreturn, 1) := by decide +kernel
theorem dX11_foretold_0 : decode cX11_foretold 0 = .ok (.aload_n 0, 1) := by decide +kernel
theorem dX11_foretold_1 : decode cX11_foretold 1 = .ok (.iconst 0, 1) := by decide +kernel
theorem dX11_foretold_2 : decode cX11_foretold 2 = .ok (.putfield 1, 3) := by decide +kernel
theorem dX11_foretold_5 : decode cX11_foretold 5 = .ok (.aload_n 0, 1) := by decide +kernel
theorem dX11_foretold_6 : decode cX11_foretold 6 = .ok (.iload_n 1, 1) := by decide +kernel
theorem dX11_foretold_7 : decode cX11_foretold 7 = .ok (.i2l, 1) := by decide +kernel
theorem dX11_foretold_8 : decode cX11_foretold 8 = .ok (.lconst 1, 1) := by decide +kernel
theorem dX11_foretold_9 : decode cX11_foretold 9 = .ok (.ldc2_w 426, 3) := by decide +kernel
theorem dX11_foretold_12 : decode cX11_foretold 12 = .ok (.invokestatic 164, 3) := by decide +kernel
theorem dX11_foretold_15 : decode cX11_foretold 15 = .ok (.iconst 1, 1) := by decide +kernel
theorem dX11_foretold_16 : decode cX11_foretold 16 = .ok (.iconst 1, 1) := by decide +kernel
theorem dX11_foretold_17 : decode cX11_foretold 17 = .ok (.invokevirtual 264, 3) := by decide +kernel
theorem dX11_foretold_20 : decode cX11_foretold 20 = .ok (.ifCond .eq 21, 3) := by decide +kernel
theorem dX11_foretold_23 : decode cX11_foretold 23 = .ok (.aload_n 0, 1) := by decide +kernel
theorem dX11_foretold_24 : decode cX11_foretold 24 = .ok (.getfield 17, 3) := by decide +kernel
theorem dX11_foretold_27 : decode cX11_foretold 27 = .ok (.iconst 2, 1) := by decide +kernel
theorem dX11_foretold_28 : decode cX11_foretold 28 = .ok (.laload, 1) := by decide +kernel
theorem dX11_foretold_29 : decode cX11_foretold 29 = .ok (.iload_n 1, 1) := by decide +kernel
theorem dX11_foretold_30 : decode cX11_foretold 30 = .ok (.i2l, 1) := by decide +kernel
theorem dX11_foretold_31 : decode cX11_foretold 31 = .ok (.ladd, 1) := by decide +kernel
theorem dX11_foretold_32 : decode cX11_foretold 32 = .ok (.lconst 1, 1) := by decide +kernel
theorem dX11_foretold_33 : decode cX11_foretold 33 = .ok (.lsub, 1) := by decide +kernel
theorem dX11_foretold_34 : decode cX11_foretold 34 = .ok (.ldc2_w 373, 3) := by decide +kernel
theorem dX11_foretold_37 : decode cX11_foretold 37 = .ok (.lcmp, 1) := by decide +kernel
theorem dX11_foretold_38 : decode cX11_foretold 38 = .ok (.ifCond .lt 5, 3) := by decide +kernel
theorem dX11_foretold_41 : decode cX11_foretold 41 = .ok (.iconst 0, 1) := by decide +kernel
theorem dX11_foretold_42 : decode cX11_foretold 42 = .ok (.ireturn, 1) := by decide +kernel
theorem dX11_foretold_43 : decode cX11_foretold 43 = .ok (.aload_n 0, 1) := by decide +kernel
theorem dX11_foretold_44 : decode cX11_foretold 44 = .ok (.invokevirtual 428, 3) := by decide +kernel
theorem dX11_foretold_47 : decode cX11_foretold 47 = .ok (.iconst 0, 1) := by decide +kernel
theorem dX11_foretold_48 : decode cX11_foretold 48 = .ok (.istore_n 2, 1) := by decide +kernel
theorem dX11_foretold_49 : decode cX11_foretold 49 = .ok (.iload_n 2, 1) := by decide +kernel
theorem dX11_foretold_50 : decode cX11_foretold 50 = .ok (.iload_n 1, 1) := by decide +kernel
theorem dX11_foretold_51 : decode cX11_foretold 51 = .ok (.if_icmp .ge 13, 3) := by decide +kernel
theorem dX11_foretold_54 : decode cX11_foretold 54 = .ok (.aload_n 0, 1) := by decide +kernel
theorem dX11_foretold_55 : decode cX11_foretold 55 = .ok (.invokevirtual 375, 3) := by decide +kernel
theorem dX11_foretold_58 : decode cX11_foretold 58 = .ok (.iinc 2 1, 3) := by decide +kernel
theorem dX11_foretold_61 : decode cX11_foretold 61 = .ok (.goto (-12), 3) := by decide +kernel
theorem dX11_foretold_64 : decode cX11_foretold 64 = .ok (.aload_n 0, 1) := by decide +kernel
theorem dX11_foretold_65 : decode cX11_foretold 65 = .ok (.invokevirtual 431, 3) := by decide +kernel
theorem dX11_foretold_68 : decode cX11_foretold 68 = .ok (.aload_n 0, 1) := by decide +kernel
theorem dX11_foretold_69 : decode cX11_foretold 69 = .ok (.getfield 360, 3) := by decide +kernel
theorem dX11_foretold_72 : decode cX11_foretold 72 = .ok (.ireturn, 1) := by decide +kernel
theorem dX11_without_0 : decode cX11_without 0 = .ok (.aload_n 0, 1) := by decide +kernel
theorem dX11_without_1 : decode cX11_without 1 = .ok (.iconst 0, 1) := by decide +kernel
theorem dX11_without_2 : decode cX11_without 2 = .ok (.putfield 1, 3) := by decide +kernel
theorem dX11_without_5 : decode cX11_without 5 = .ok (.aload_n 0, 1) := by decide +kernel
theorem dX11_without_6 : decode cX11_without 6 = .ok (.iload_n 1, 1) := by decide +kernel
theorem dX11_without_7 : decode cX11_without 7 = .ok (.iconst (-1), 1) := by decide +kernel
theorem dX11_without_8 : decode cX11_without 8 = .ok (.if_icmp .eq 11, 3) := by decide +kernel
theorem dX11_without_11 : decode cX11_without 11 = .ok (.aload_n 0, 1) := by decide +kernel
theorem dX11_without_12 : decode cX11_without 12 = .ok (.iload_n 1, 1) := by decide +kernel
theorem dX11_without_13 : decode cX11_without 13 = .ok (.invokevirtual 378, 3) := by decide +kernel
theorem dX11_without_16 : decode cX11_without 16 = .ok (.ifCond .eq 7, 3) := by decide +kernel
theorem dX11_without_19 : decode cX11_without 19 = .ok (.iconst 1, 1) := by decide +kernel
theorem dX11_without_20 : decode cX11_without 20 = .ok (.goto 4, 3) := by decide +kernel
theorem dX11_without_23 : decode cX11_without 23 = .ok (.iconst 0, 1) := by decide +kernel
theorem dX11_without_24 : decode cX11_without 24 = .ok (.iconst 1, 1) := by decide +kernel
theorem dX11_without_25 : decode cX11_without 25 = .ok (.iconst 0, 1) := by decide +kernel
theorem dX11_without_26 : decode cX11_without 26 = .ok (.invokevirtual 264, 3) := by decide +kernel
theorem dX11_without_29 : decode cX11_without 29 = .ok (.ifCond .eq 16, 3) := by decide +kernel
theorem dX11_without_32 : decode cX11_without 32 = .ok (.aload_n 0, 1) := by decide +kernel
theorem dX11_without_33 : decode cX11_without 33 = .ok (.getfield 17, 3) := by decide +kernel
theorem dX11_without_36 : decode cX11_without 36 = .ok (.iconst 2, 1) := by decide +kernel
theorem dX11_without_37 : decode cX11_without 37 = .ok (.laload, 1) := by decide +kernel
theorem dX11_without_38 : decode cX11_without 38 = .ok (.ldc2_w 373, 3) := by decide +kernel
theorem dX11_without_41 : decode cX11_without 41 = .ok (.lcmp, 1) := by decide +kernel
theorem dX11_without_42 : decode cX11_without 42 = .ok (.ifCond .lt 5, 3) := by decide +kernel
theorem dX11_without_45 : decode cX11_without 45 = .ok (.lconst 0, 1) := by decide +kernel
theorem dX11_without_46 : decode cX11_without 46 = .ok (.lreturn, 1) := by decide +kernel
theorem dX11_without_47 : decode cX11_without 47 = .ok (.aload_n 0, 1) := by decide +kernel
theorem dX11_without_48 : decode cX11_without 48 = .ok (.invokevirtual 428, 3) := by decide +kernel
theorem dX11_without_51 : decode cX11_without 51 = .ok (.iload_n 1, 1) := by decide +kernel
theorem dX11_without_52 : decode cX11_without 52 = .ok (.iconst (-1), 1) := by decide +kernel
theorem dX11_without_53 : decode cX11_without 53 = .ok (.if_icmp .eq 17, 3) := by decide +kernel
theorem dX11_without_56 : decode cX11_without 56 = .ok (.aload_n 0, 1) := by decide +kernel
theorem dX11_without_57 : decode cX11_without 57 = .ok (.iload_n 1, 1) := by decide +kernel
theorem dX11_without_58 : decode cX11_without 58 = .ok (.iconst 5, 1) := by decide +kernel
theorem dX11_without_59 : decode cX11_without 59 = .ok (.aload_n 0, 1) := by decide +kernel
theorem dX11_without_60 : decode cX11_without 60 = .ok (.iload_n 1, 1) := by decide +kernel
theorem dX11_without_61 : decode cX11_without 61 = .ok (.iconst 5, 1) := by decide +kernel
theorem dX11_without_62 : decode cX11_without 62 = .ok (.invokevirtual 289, 3) := by decide +kernel
theorem dX11_without_65 : decode cX11_without 65 = .ok (.ineg, 1) := by decide +kernel
theorem dX11_without_66 : decode cX11_without 66 = .ok (.i2l, 1) := by decide +kernel
theorem dX11_without_67 : decode cX11_without 67 = .ok (.invokevirtual 322, 3) := by decide +kernel
theorem dX11_without_70 : decode cX11_without 70 = .ok (.aload_n 0, 1) := by decide +kernel
theorem dX11_without_71 : decode cX11_without 71 = .ok (.invokevirtual 375, 3) := by decide +kernel
theorem dX11_without_74 : decode cX11_without 74 = .ok (.aload_n 0, 1) := by decide +kernel
theorem dX11_without_75 : decode cX11_without 75 = .ok (.invokevirtual 431, 3) := by decide +kernel
theorem dX11_without_78 : decode cX11_without 78 = .ok (.aload_n 0, 1) := by decide +kernel
theorem dX11_without_79 : decode cX11_without 79 = .ok (.getfield 363, 3) := by decide +kernel
theorem dX11_without_82 : decode cX11_without 82 = .ok (.lreturn, 1) := by decide +kernel
theorem dX11_between_0 : decode cX11_between 0 = .ok (.aload_n 0, 1) := by decide +kernel
theorem dX11_between_1 : decode cX11_between 1 = .ok (.iconst 0, 1) := by decide +kernel
theorem dX11_between_2 : decode cX11_between 2 = .ok (.putfield 1, 3) := by decide +kernel
theorem dX11_between_5 : decode cX11_between 5 = .ok (.aload_n 0, 1) := by decide +kernel
theorem dX11_between_6 : decode cX11_between 6 = .ok (.aload_n 0, 1) := by decide +kernel
theorem dX11_between_7 : decode cX11_between 7 = .ok (.iload_n 1, 1) := by decide +kernel
theorem dX11_between_8 : decode cX11_between 8 = .ok (.invokevirtual 284, 3) := by decide +kernel
theorem dX11_between_11 : decode cX11_between 11 = .ok (.ifCond .eq 15, 3) := by decide +kernel
theorem dX11_between_14 : decode cX11_between 14 = .ok (.aload_n 0, 1) := by decide +kernel
theorem dX11_between_15 : decode cX11_between 15 = .ok (.iload_n 2, 1) := by decide +kernel
theorem dX11_between_16 : decode cX11_between 16 = .ok (.invokevirtual 284, 3) := by decide +kernel
theorem dX11_between_19 : decode cX11_between 19 = .ok (.ifCond .eq 7, 3) := by decide +kernel
theorem dX11_between_22 : decode cX11_between 22 = .ok (.iconst 1, 1) := by decide +kernel
theorem dX11_between_23 : decode cX11_between 23 = .ok (.goto 4, 3) := by decide +kernel
theorem dX11_between_26 : decode cX11_between 26 = .ok (.iconst 0, 1) := by decide +kernel
theorem dX11_between_27 : decode cX11_between 27 = .ok (.iconst 1, 1) := by decide +kernel
theorem dX11_between_28 : decode cX11_between 28 = .ok (.iconst 0, 1) := by decide +kernel
theorem dX11_between_29 : decode cX11_between 29 = .ok (.invokevirtual 264, 3) := by decide +kernel
theorem dX11_between_32 : decode cX11_between 32 = .ok (.ifCond .eq 12, 3) := by decide +kernel
theorem dX11_between_35 : decode cX11_between 35 = .ok (.aload_n 0, 1) := by decide +kernel
theorem dX11_between_36 : decode cX11_between 36 = .ok (.iload_n 1, 1) := by decide +kernel
theorem dX11_between_37 : decode cX11_between 37 = .ok (.iload_n 2, 1) := by decide +kernel
theorem dX11_between_38 : decode cX11_between 38 = .ok (.invokevirtual 384, 3) := by decide +kernel
theorem dX11_between_41 : decode cX11_between 41 = .ok (.goto 4, 3) := by decide +kernel
theorem dX11_between_44 : decode cX11_between 44 = .ok (.iconst 0, 1) := by decide +kernel
theorem dX11_between_45 : decode cX11_between 45 = .ok (.ireturn, 1) := by decide +kernel
theorem dX11_mean_0 : decode cX11_mean 0 = .ok (.aload_n 0, 1) := by decide +kernel
theorem dX11_mean_1 : decode cX11_mean 1 = .ok (.iconst 0, 1) := by decide +kernel
theorem dX11_mean_2 : decode cX11_mean 2 = .ok (.putfield 1, 3) := by decide +kernel
theorem dX11_mean_5 : decode cX11_mean 5 = .ok (.lconst 0, 1) := by decide +kernel
theorem dX11_mean_6 : decode cX11_mean 6 = .ok (.lstore_n 1, 1) := by decide +kernel
theorem dX11_mean_7 : decode cX11_mean 7 = .ok (.lconst 0, 1) := by decide +kernel
theorem dX11_mean_8 : decode cX11_mean 8 = .ok (.lstore_n 3, 1) := by decide +kernel
theorem dX11_mean_9 : decode cX11_mean 9 = .ok (.iconst 0, 1) := by decide +kernel
theorem dX11_mean_10 : decode cX11_mean 10 = .ok (.istore 5, 2) := by decide +kernel
theorem dX11_mean_12 : decode cX11_mean 12 = .ok (.iload 5, 2) := by decide +kernel
theorem dX11_mean_14 : decode cX11_mean 14 = .ok (.aload_n 0, 1) := by decide +kernel
theorem dX11_mean_15 : decode cX11_mean 15 = .ok (.invokevirtual 278, 3) := by decide +kernel
theorem dX11_mean_18 : decode cX11_mean 18 = .ok (.if_icmp .ge 52, 3) := by decide +kernel
theorem dX11_mean_21 : decode cX11_mean 21 = .ok (.aload_n 0, 1) := by decide +kernel
theorem dX11_mean_22 : decode cX11_mean 22 = .ok (.iload 5, 2) := by decide +kernel
theorem dX11_mean_24 : decode cX11_mean 24 = .ok (.invokevirtual 305, 3) := by decide +kernel
theorem dX11_mean_27 : decode cX11_mean 27 = .ok (.ifCond .ne 6, 3) := by decide +kernel
theorem dX11_mean_30 : decode cX11_mean 30 = .ok (.goto 34, 3) := by decide +kernel
theorem dX11_mean_33 : decode cX11_mean 33 = .ok (.lload_n 1, 1) := by decide +kernel
theorem dX11_mean_34 : decode cX11_mean 34 = .ok (.aload_n 0, 1) := by decide +kernel
theorem dX11_mean_35 : decode cX11_mean 35 = .ok (.iload 5, 2) := by decide +kernel
theorem dX11_mean_37 : decode cX11_mean 37 = .ok (.iconst 3, 1) := by decide +kernel
theorem dX11_mean_38 : decode cX11_mean 38 = .ok (.invokevirtual 289, 3) := by decide +kernel
theorem dX11_mean_41 : decode cX11_mean 41 = .ok (.i2l, 1) := by decide +kernel
theorem dX11_mean_42 : decode cX11_mean 42 = .ok (.aload_n 0, 1) := by decide +kernel
theorem dX11_mean_43 : decode cX11_mean 43 = .ok (.iload 5, 2) := by decide +kernel
theorem dX11_mean_45 : decode cX11_mean 45 = .ok (.iconst 5, 1) := by decide +kernel
theorem dX11_mean_46 : decode cX11_mean 46 = .ok (.invokevirtual 289, 3) := by decide +kernel
theorem dX11_mean_49 : decode cX11_mean 49 = .ok (.i2l, 1) := by decide +kernel
theorem dX11_mean_50 : decode cX11_mean 50 = .ok (.lmul, 1) := by decide +kernel
theorem dX11_mean_51 : decode cX11_mean 51 = .ok (.ladd, 1) := by decide +kernel
theorem dX11_mean_52 : decode cX11_mean 52 = .ok (.lstore_n 1, 1) := by decide +kernel
theorem dX11_mean_53 : decode cX11_mean 53 = .ok (.lload_n 3, 1) := by decide +kernel
theorem dX11_mean_54 : decode cX11_mean 54 = .ok (.aload_n 0, 1) := by decide +kernel
theorem dX11_mean_55 : decode cX11_mean 55 = .ok (.iload 5, 2) := by decide +kernel
theorem dX11_mean_57 : decode cX11_mean 57 = .ok (.iconst 5, 1) := by decide +kernel
theorem dX11_mean_58 : decode cX11_mean 58 = .ok (.invokevirtual 289, 3) := by decide +kernel
theorem dX11_mean_61 : decode cX11_mean 61 = .ok (.i2l, 1) := by decide +kernel
theorem dX11_mean_62 : decode cX11_mean 62 = .ok (.ladd, 1) := by decide +kernel
theorem dX11_mean_63 : decode cX11_mean 63 = .ok (.lstore_n 3, 1) := by decide +kernel
theorem dX11_mean_64 : decode cX11_mean 64 = .ok (.iinc 5 1, 3) := by decide +kernel
theorem dX11_mean_67 : decode cX11_mean 67 = .ok (.goto (-55), 3) := by decide +kernel
theorem dX11_mean_70 : decode cX11_mean 70 = .ok (.lload_n 3, 1) := by decide +kernel
theorem dX11_mean_71 : decode cX11_mean 71 = .ok (.lconst 0, 1) := by decide +kernel
theorem dX11_mean_72 : decode cX11_mean 72 = .ok (.lcmp, 1) := by decide +kernel
theorem dX11_mean_73 : decode cX11_mean 73 = .ok (.ifCond .ne 7, 3) := by decide +kernel
theorem dX11_mean_76 : decode cX11_mean 76 = .ok (.dconst 0, 1) := by decide +kernel
theorem dX11_mean_77 : decode cX11_mean 77 = .ok (.goto 8, 3) := by decide +kernel
theorem dX11_mean_80 : decode cX11_mean 80 = .ok (.lload_n 1, 1) := by decide +kernel
theorem dX11_mean_81 : decode cX11_mean 81 = .ok (.l2d, 1) := by decide +kernel
theorem dX11_mean_82 : decode cX11_mean 82 = .ok (.lload_n 3, 1) := by decide +kernel
theorem dX11_mean_83 : decode cX11_mean 83 = .ok (.l2d, 1) := by decide +kernel
theorem dX11_mean_84 : decode cX11_mean 84 = .ok (.ddiv, 1) := by decide +kernel
theorem dX11_mean_85 : decode cX11_mean 85 = .ok (.invokestatic 434, 3) := by decide +kernel
theorem dX11_mean_88 : decode cX11_mean 88 = .ok (.lreturn, 1) := by decide +kernel
theorem dX11_outside_0 : decode cX11_outside 0 = .ok (.aload_n 0, 1) := by decide +kernel
theorem dX11_outside_1 : decode cX11_outside 1 = .ok (.iconst 0, 1) := by decide +kernel
theorem dX11_outside_2 : decode cX11_outside 2 = .ok (.putfield 1, 3) := by decide +kernel
theorem dX11_outside_5 : decode cX11_outside 5 = .ok (.aload_n 0, 1) := by decide +kernel
theorem dX11_outside_6 : decode cX11_outside 6 = .ok (.getfield 17, 3) := by decide +kernel
theorem dX11_outside_9 : decode cX11_outside 9 = .ok (.bipush 8, 2) := by decide +kernel
theorem dX11_outside_11 : decode cX11_outside 11 = .ok (.laload, 1) := by decide +kernel
theorem dX11_outside_12 : decode cX11_outside 12 = .ok (.lreturn, 1) := by decide +kernel
theorem dX11_print_0 : decode cX11_print 0 = .ok (.aload_n 0, 1) := by decide +kernel
theorem dX11_print_1 : decode cX11_print 1 = .ok (.iconst 0, 1) := by decide +kernel
theorem dX11_print_2 : decode cX11_print 2 = .ok (.putfield 1, 3) := by decide +kernel
theorem dX11_print_5 : decode cX11_print 5 = .ok (.lconst 0, 1) := by decide +kernel
theorem dX11_print_6 : decode cX11_print 6 = .ok (.lstore_n 1, 1) := by decide +kernel
theorem dX11_print_7 : decode cX11_print 7 = .ok (.iconst 0, 1) := by decide +kernel
theorem dX11_print_8 : decode cX11_print 8 = .ok (.istore_n 3, 1) := by decide +kernel
theorem dX11_print_9 : decode cX11_print 9 = .ok (.iload_n 3, 1) := by decide +kernel
theorem dX11_print_10 : decode cX11_print 10 = .ok (.aload_n 0, 1) := by decide +kernel
theorem dX11_print_11 : decode cX11_print 11 = .ok (.invokevirtual 281, 3) := by decide +kernel
theorem dX11_print_14 : decode cX11_print 14 = .ok (.if_icmp .ge 51, 3) := by decide +kernel
theorem dX11_print_17 : decode cX11_print 17 = .ok (.ldc2_w 440, 3) := by decide +kernel
theorem dX11_print_20 : decode cX11_print 20 = .ok (.lload_n 1, 1) := by decide +kernel
theorem dX11_print_21 : decode cX11_print 21 = .ok (.lmul, 1) := by decide +kernel
theorem dX11_print_22 : decode cX11_print 22 = .ok (.aload_n 0, 1) := by decide +kernel
theorem dX11_print_23 : decode cX11_print 23 = .ok (.getfield 17, 3) := by decide +kernel
theorem dX11_print_26 : decode cX11_print 26 = .ok (.bipush 9, 2) := by decide +kernel
theorem dX11_print_28 : decode cX11_print 28 = .ok (.bipush 6, 2) := by decide +kernel
theorem dX11_print_30 : decode cX11_print 30 = .ok (.iload_n 3, 1) := by decide +kernel
theorem dX11_print_31 : decode cX11_print 31 = .ok (.imul, 1) := by decide +kernel
theorem dX11_print_32 : decode cX11_print 32 = .ok (.iadd, 1) := by decide +kernel
theorem dX11_print_33 : decode cX11_print 33 = .ok (.iconst 0, 1) := by decide +kernel
theorem dX11_print_34 : decode cX11_print 34 = .ok (.iadd, 1) := by decide +kernel
theorem dX11_print_35 : decode cX11_print 35 = .ok (.laload, 1) := by decide +kernel
theorem dX11_print_36 : decode cX11_print 36 = .ok (.ladd, 1) := by decide +kernel
theorem dX11_print_37 : decode cX11_print 37 = .ok (.lstore_n 1, 1) := by decide +kernel
theorem dX11_print_38 : decode cX11_print 38 = .ok (.ldc2_w 440, 3) := by decide +kernel
theorem dX11_print_41 : decode cX11_print 41 = .ok (.lload_n 1, 1) := by decide +kernel
theorem dX11_print_42 : decode cX11_print 42 = .ok (.lmul, 1) := by decide +kernel
theorem dX11_print_43 : decode cX11_print 43 = .ok (.aload_n 0, 1) := by decide +kernel
theorem dX11_print_44 : decode cX11_print 44 = .ok (.getfield 17, 3) := by decide +kernel
theorem dX11_print_47 : decode cX11_print 47 = .ok (.bipush 9, 2) := by decide +kernel
theorem dX11_print_49 : decode cX11_print 49 = .ok (.bipush 6, 2) := by decide +kernel
theorem dX11_print_51 : decode cX11_print 51 = .ok (.iload_n 3, 1) := by decide +kernel
theorem dX11_print_52 : decode cX11_print 52 = .ok (.imul, 1) := by decide +kernel
theorem dX11_print_53 : decode cX11_print 53 = .ok (.iadd, 1) := by decide +kernel
theorem dX11_print_54 : decode cX11_print 54 = .ok (.iconst 1, 1) := by decide +kernel
theorem dX11_print_55 : decode cX11_print 55 = .ok (.iadd, 1) := by decide +kernel
theorem dX11_print_56 : decode cX11_print 56 = .ok (.laload, 1) := by decide +kernel
theorem dX11_print_57 : decode cX11_print 57 = .ok (.ladd, 1) := by decide +kernel
theorem dX11_print_58 : decode cX11_print 58 = .ok (.lstore_n 1, 1) := by decide +kernel
theorem dX11_print_59 : decode cX11_print 59 = .ok (.iinc 3 1, 3) := by decide +kernel
theorem dX11_print_62 : decode cX11_print 62 = .ok (.goto (-53), 3) := by decide +kernel
theorem dX11_print_65 : decode cX11_print 65 = .ok (.iconst 0, 1) := by decide +kernel
theorem dX11_print_66 : decode cX11_print 66 = .ok (.istore_n 3, 1) := by decide +kernel
theorem dX11_print_67 : decode cX11_print 67 = .ok (.iload_n 3, 1) := by decide +kernel
theorem dX11_print_68 : decode cX11_print 68 = .ok (.aload_n 0, 1) := by decide +kernel
theorem dX11_print_69 : decode cX11_print 69 = .ok (.invokevirtual 278, 3) := by decide +kernel
theorem dX11_print_72 : decode cX11_print 72 = .ok (.if_icmp .ge 23, 3) := by decide +kernel
theorem dX11_print_75 : decode cX11_print 75 = .ok (.ldc2_w 440, 3) := by decide +kernel
theorem dX11_print_78 : decode cX11_print 78 = .ok (.lload_n 1, 1) := by decide +kernel
theorem dX11_print_79 : decode cX11_print 79 = .ok (.lmul, 1) := by decide +kernel
theorem dX11_print_80 : decode cX11_print 80 = .ok (.aload_n 0, 1) := by decide +kernel
theorem dX11_print_81 : decode cX11_print 81 = .ok (.iload_n 3, 1) := by decide +kernel
theorem dX11_print_82 : decode cX11_print 82 = .ok (.iconst 5, 1) := by decide +kernel
theorem dX11_print_83 : decode cX11_print 83 = .ok (.invokevirtual 289, 3) := by decide +kernel
theorem dX11_print_86 : decode cX11_print 86 = .ok (.i2l, 1) := by decide +kernel
theorem dX11_print_87 : decode cX11_print 87 = .ok (.ladd, 1) := by decide +kernel
theorem dX11_print_88 : decode cX11_print 88 = .ok (.lstore_n 1, 1) := by decide +kernel
theorem dX11_print_89 : decode cX11_print 89 = .ok (.iinc 3 1, 3) := by decide +kernel
theorem dX11_print_92 : decode cX11_print 92 = .ok (.goto (-25), 3) := by decide +kernel
theorem dX11_print_95 : decode cX11_print 95 = .ok (.lload_n 1, 1) := by decide +kernel
theorem dX11_print_96 : decode cX11_print 96 = .ok (.lreturn, 1) := by decide +kernel
theorem dX11_status_0 : decode cX11_status 0 = .ok (.aload_n 0, 1) := by decide +kernel
theorem dX11_status_1 : decode cX11_status 1 = .ok (.iconst 0, 1) := by decide +kernel
theorem dX11_status_2 : decode cX11_status 2 = .ok (.putfield 1, 3) := by decide +kernel
theorem dX11_status_5 : decode cX11_status 5 = .ok (.iload_n 1, 1) := by decide +kernel
theorem dX11_status_6 : decode cX11_status 6 = .ok (.i2l, 1) := by decide +kernel
theorem dX11_status_7 : decode cX11_status 7 = .ok (.lconst 0, 1) := by decide +kernel
theorem dX11_status_8 : decode cX11_status 8 = .ok (.ldc2_w 442, 3) := by decide +kernel
theorem dX11_status_11 : decode cX11_status 11 = .ok (.invokestatic 164, 3) := by decide +kernel
theorem dX11_status_14 : decode cX11_status 14 = .ok (.ifCond .eq 12, 3) := by decide +kernel
theorem dX11_status_17 : decode cX11_status 17 = .ok (.aload_n 0, 1) := by decide +kernel
theorem dX11_status_18 : decode cX11_status 18 = .ok (.getfield 7, 3) := by decide +kernel
theorem dX11_status_21 : decode cX11_status 21 = .ok (.iload_n 1, 1) := by decide +kernel
theorem dX11_status_22 : decode cX11_status 22 = .ok (.iaload, 1) := by decide +kernel
theorem dX11_status_23 : decode cX11_status 23 = .ok (.goto 4, 3) := by decide +kernel
theorem dX11_status_26 : decode cX11_status 26 = .ok (.iconst (-1), 1) := by decide +kernel
theorem dX11_status_27 : decode cX11_status 27 = .ok (.ireturn, 1) := by decide +kernel
theorem dJxe99ae_isNaN_b9ae7_0 : decode cJxe99ae_isNaN_b9ae7 0 = .ok (.dload_n 0, 1) := by decide +kernel
theorem dJxe99ae_isNaN_b9ae7_1 : decode cJxe99ae_isNaN_b9ae7 1 = .ok (.dload_n 0, 1) := by decide +kernel
theorem dJxe99ae_isNaN_b9ae7_2 : decode cJxe99ae_isNaN_b9ae7 2 = .ok (.dcmp .l, 1) := by decide +kernel
theorem dJxe99ae_isNaN_b9ae7_3 : decode cJxe99ae_isNaN_b9ae7 3 = .ok (.ifCond .eq 7, 3) := by decide +kernel
theorem dJxe99ae_isNaN_b9ae7_6 : decode cJxe99ae_isNaN_b9ae7 6 = .ok (.iconst 1, 1) := by decide +kernel
theorem dJxe99ae_isNaN_b9ae7_7 : decode cJxe99ae_isNaN_b9ae7 7 = .ok (.goto 4, 3) := by decide +kernel
theorem dJxe99ae_isNaN_b9ae7_10 : decode cJxe99ae_isNaN_b9ae7 10 = .ok (.iconst 0, 1) := by decide +kernel
theorem dJxe99ae_isNaN_b9ae7_11 : decode cJxe99ae_isNaN_b9ae7 11 = .ok (.ireturn, 1) := by decide +kernel
theorem dJxe99ae_doubleToLongBits_ccdee_0 : decode cJxe99ae_doubleToLongBits_ccdee 0 = .ok (.dload_n 0, 1) := by decide +kernel
theorem dJxe99ae_doubleToLongBits_ccdee_1 : decode cJxe99ae_doubleToLongBits_ccdee 1 = .ok (.invokestatic 122, 3) := by decide +kernel
theorem dJxe99ae_doubleToLongBits_ccdee_4 : decode cJxe99ae_doubleToLongBits_ccdee 4 = .ok (.ifCond .ne 8, 3) := by decide +kernel
theorem dJxe99ae_doubleToLongBits_ccdee_7 : decode cJxe99ae_doubleToLongBits_ccdee 7 = .ok (.dload_n 0, 1) := by decide +kernel
theorem dJxe99ae_doubleToLongBits_ccdee_8 : decode cJxe99ae_doubleToLongBits_ccdee 8 = .ok (.invokestatic 134, 3) := by decide +kernel
theorem dJxe99ae_doubleToLongBits_ccdee_11 : decode cJxe99ae_doubleToLongBits_ccdee 11 = .ok (.lreturn, 1) := by decide +kernel
theorem dJxe99ae_doubleToLongBits_ccdee_12 : decode cJxe99ae_doubleToLongBits_ccdee 12 = .ok (.ldc2_w 137, 3) := by decide +kernel
theorem dJxe99ae_doubleToLongBits_ccdee_15 : decode cJxe99ae_doubleToLongBits_ccdee 15 = .ok (.lreturn, 1) := by decide +kernel
theorem dJ9_max_7cf53_0 : decode cJ9_max_7cf53 0 = .ok (.iload_n 0, 1) := by decide +kernel
theorem dJ9_max_7cf53_1 : decode cJ9_max_7cf53 1 = .ok (.iload_n 1, 1) := by decide +kernel
theorem dJ9_max_7cf53_2 : decode cJ9_max_7cf53 2 = .ok (.if_icmp .lt 7, 3) := by decide +kernel
theorem dJ9_max_7cf53_5 : decode cJ9_max_7cf53 5 = .ok (.iload_n 0, 1) := by decide +kernel
theorem dJ9_max_7cf53_6 : decode cJ9_max_7cf53 6 = .ok (.goto 4, 3) := by decide +kernel
theorem dJ9_max_7cf53_9 : decode cJ9_max_7cf53 9 = .ok (.iload_n 1, 1) := by decide +kernel
theorem dJ9_max_7cf53_10 : decode cJ9_max_7cf53 10 = .ok (.ireturn, 1) := by decide +kernel
theorem dJ9_max_f86c9_0 : decode cJ9_max_f86c9 0 = .ok (.lload_n 0, 1) := by decide +kernel
theorem dJ9_max_f86c9_1 : decode cJ9_max_f86c9 1 = .ok (.lload_n 2, 1) := by decide +kernel
theorem dJ9_max_f86c9_2 : decode cJ9_max_f86c9 2 = .ok (.lcmp, 1) := by decide +kernel
theorem dJ9_max_f86c9_3 : decode cJ9_max_f86c9 3 = .ok (.ifCond .lt 7, 3) := by decide +kernel
theorem dJ9_max_f86c9_6 : decode cJ9_max_f86c9 6 = .ok (.lload_n 0, 1) := by decide +kernel
theorem dJ9_max_f86c9_7 : decode cJ9_max_f86c9 7 = .ok (.goto 4, 3) := by decide +kernel
theorem dJ9_max_f86c9_10 : decode cJ9_max_f86c9 10 = .ok (.lload_n 2, 1) := by decide +kernel
theorem dJ9_max_f86c9_11 : decode cJ9_max_f86c9 11 = .ok (.lreturn, 1) := by decide +kernel
theorem dJ9_min_7cf53_0 : decode cJ9_min_7cf53 0 = .ok (.iload_n 0, 1) := by decide +kernel
theorem dJ9_min_7cf53_1 : decode cJ9_min_7cf53 1 = .ok (.iload_n 1, 1) := by decide +kernel
theorem dJ9_min_7cf53_2 : decode cJ9_min_7cf53 2 = .ok (.if_icmp .gt 7, 3) := by decide +kernel
theorem dJ9_min_7cf53_5 : decode cJ9_min_7cf53 5 = .ok (.iload_n 0, 1) := by decide +kernel
theorem dJ9_min_7cf53_6 : decode cJ9_min_7cf53 6 = .ok (.goto 4, 3) := by decide +kernel
theorem dJ9_min_7cf53_9 : decode cJ9_min_7cf53 9 = .ok (.iload_n 1, 1) := by decide +kernel
theorem dJ9_min_7cf53_10 : decode cJ9_min_7cf53 10 = .ok (.ireturn, 1) := by decide +kernel
theorem dJ9_min_f86c9_0 : decode cJ9_min_f86c9 0 = .ok (.lload_n 0, 1) := by decide +kernel
theorem dJ9_min_f86c9_1 : decode cJ9_min_f86c9 1 = .ok (.lload_n 2, 1) := by decide +kernel
theorem dJ9_min_f86c9_2 : decode cJ9_min_f86c9 2 = .ok (.lcmp, 1) := by decide +kernel
theorem dJ9_min_f86c9_3 : decode cJ9_min_f86c9 3 = .ok (.ifCond .gt 7, 3) := by decide +kernel
theorem dJ9_min_f86c9_6 : decode cJ9_min_f86c9 6 = .ok (.lload_n 0, 1) := by decide +kernel
theorem dJ9_min_f86c9_7 : decode cJ9_min_f86c9 7 = .ok (.goto 4, 3) := by decide +kernel
theorem dJ9_min_f86c9_10 : decode cJ9_min_f86c9 10 = .ok (.lload_n 2, 1) := by decide +kernel
theorem dJ9_min_f86c9_11 : decode cJ9_min_f86c9 11 = .ok (.lreturn, 1) := by decide +kernel
theorem dJ0_length_8abf5_0 : decode cJ0_length_8abf5 0 = .ok (.aload_n 0, 1) := by decide +kernel
theorem dJ0_length_8abf5_1 : decode cJ0_length_8abf5 1 = .ok (.getfield 9, 3) := by decide +kernel
theorem dJ0_length_8abf5_4 : decode cJ0_length_8abf5 4 = .ok (.arraylength, 1) := by decide +kernel
theorem dJ0_length_8abf5_5 : decode cJ0_length_8abf5 5 = .ok (.aload_n 0, 1) := by decide +kernel
theorem dJ0_length_8abf5_6 : decode cJ0_length_8abf5 6 = .ok (.invokevirtual 335, 3) := by decide +kernel
theorem dJ0_length_8abf5_9 : decode cJ0_length_8abf5 9 = .ok (.ishr, 1) := by decide +kernel
theorem dJ0_length_8abf5_10 : decode cJ0_length_8abf5 10 = .ok (.ireturn, 1) := by decide +kernel
theorem dJ0_charAt_5068e_0 : decode cJ0_charAt_5068e 0 = .ok (.aload_n 0, 1) := by decide +kernel
theorem dJ0_charAt_5068e_1 : decode cJ0_charAt_5068e 1 = .ok (.invokevirtual 492, 3) := by decide +kernel
theorem dJ0_charAt_5068e_4 : decode cJ0_charAt_5068e 4 = .ok (.ifCond .eq 12, 3) := by decide +kernel
theorem dJ0_charAt_5068e_7 : decode cJ0_charAt_5068e 7 = .ok (.aload_n 0, 1) := by decide +kernel
theorem dJ0_charAt_5068e_8 : decode cJ0_charAt_5068e 8 = .ok (.getfield 9, 3) := by decide +kernel
theorem dJ0_charAt_5068e_11 : decode cJ0_charAt_5068e 11 = .ok (.iload_n 1, 1) := by decide +kernel
theorem dJ0_charAt_5068e_12 : decode cJ0_charAt_5068e 12 = .ok (.invokestatic 495, 3) := by decide +kernel
theorem dJ0_charAt_5068e_15 : decode cJ0_charAt_5068e 15 = .ok (.ireturn, 1) := by decide +kernel
theorem dJ0_charAt_5068e_16 : decode cJ0_charAt_5068e 16 = .ok (.aload_n 0, 1) := by decide +kernel
theorem dJ0_charAt_5068e_17 : decode cJ0_charAt_5068e 17 = .ok (.getfield 9, 3) := by decide +kernel
theorem dJ0_charAt_5068e_20 : decode cJ0_charAt_5068e 20 = .ok (.iload_n 1, 1) := by decide +kernel
theorem dJ0_charAt_5068e_21 : decode cJ0_charAt_5068e 21 = .ok (.invokestatic 498, 3) := by decide +kernel
theorem dJ0_charAt_5068e_24 : decode cJ0_charAt_5068e 24 = .ok (.ireturn, 1) := by decide +kernel
theorem dJ0_coder_7d493_0 : decode cJ0_coder_7d493 0 = .ok (.getstatic 38, 3) := by decide +kernel
theorem dJ0_coder_7d493_3 : decode cJ0_coder_7d493 3 = .ok (.ifCond .eq 10, 3) := by decide +kernel
theorem dJ0_coder_7d493_6 : decode cJ0_coder_7d493 6 = .ok (.aload_n 0, 1) := by decide +kernel
theorem dJ0_coder_7d493_7 : decode cJ0_coder_7d493 7 = .ok (.getfield 15, 3) := by decide +kernel
theorem dJ0_coder_7d493_10 : decode cJ0_coder_7d493 10 = .ok (.goto 4, 3) := by decide +kernel
theorem dJ0_coder_7d493_13 : decode cJ0_coder_7d493 13 = .ok (.iconst 1, 1) := by decide +kernel
theorem dJ0_coder_7d493_14 : decode cJ0_coder_7d493 14 = .ok (.ireturn, 1) := by decide +kernel
theorem dJ0_isLatin1_aae02_0 : decode cJ0_isLatin1_aae02 0 = .ok (.getstatic 38, 3) := by decide +kernel
theorem dJ0_isLatin1_aae02_3 : decode cJ0_isLatin1_aae02 3 = .ok (.ifCond .eq 14, 3) := by decide +kernel
theorem dJ0_isLatin1_aae02_6 : decode cJ0_isLatin1_aae02 6 = .ok (.aload_n 0, 1) := by decide +kernel
theorem dJ0_isLatin1_aae02_7 : decode cJ0_isLatin1_aae02 7 = .ok (.getfield 15, 3) := by decide +kernel
theorem dJ0_isLatin1_aae02_10 : decode cJ0_isLatin1_aae02 10 = .ok (.ifCond .ne 7, 3) := by decide +kernel
theorem dJ0_isLatin1_aae02_13 : decode cJ0_isLatin1_aae02 13 = .ok (.iconst 1, 1) := by decide +kernel
theorem dJ0_isLatin1_aae02_14 : decode cJ0_isLatin1_aae02 14 = .ok (.goto 4, 3) := by decide +kernel
theorem dJ0_isLatin1_aae02_17 : decode cJ0_isLatin1_aae02 17 = .ok (.iconst 0, 1) := by decide +kernel
theorem dJ0_isLatin1_aae02_18 : decode cJ0_isLatin1_aae02 18 = .ok (.ireturn, 1) := by decide +kernel
theorem dJ0_checkIndex_df160_0 : decode cJ0_checkIndex_df160 0 = .ok (.iload_n 0, 1) := by decide +kernel
theorem dJ0_checkIndex_df160_1 : decode cJ0_checkIndex_df160 1 = .ok (.iload_n 1, 1) := by decide +kernel
theorem dJ0_checkIndex_df160_2 : decode cJ0_checkIndex_df160 2 = .ok (.getstatic 1053, 3) := by decide +kernel
theorem dJ0_checkIndex_df160_5 : decode cJ0_checkIndex_df160 5 = .ok (.invokestatic 1059, 3) := by decide +kernel
theorem dJ0_checkIndex_df160_8 : decode cJ0_checkIndex_df160 8 = .ok (.pop, 1) := by decide +kernel
theorem dJ0_checkIndex_df160_9 : decode cJ0_checkIndex_df160 9 = .ok (.return_, 1) := by decide +kernel
theorem dJ1_charAt_3b067_0 : decode cJ1_charAt_3b067 0 = .ok (.iload_n 1, 1) := by decide +kernel
theorem dJ1_charAt_3b067_1 : decode cJ1_charAt_3b067 1 = .ok (.aload_n 0, 1) := by decide +kernel
theorem dJ1_charAt_3b067_2 : decode cJ1_charAt_3b067 2 = .ok (.arraylength, 1) := by decide +kernel
theorem dJ1_charAt_3b067_3 : decode cJ1_charAt_3b067 3 = .ok (.invokestatic 9, 3) := by decide +kernel
theorem dJ1_charAt_3b067_6 : decode cJ1_charAt_3b067 6 = .ok (.aload_n 0, 1) := by decide +kernel
theorem dJ1_charAt_3b067_7 : decode cJ1_charAt_3b067 7 = .ok (.iload_n 1, 1) := by decide +kernel
theorem dJ1_charAt_3b067_8 : decode cJ1_charAt_3b067 8 = .ok (.baload, 1) := by decide +kernel
theorem dJ1_charAt_3b067_9 : decode cJ1_charAt_3b067 9 = .ok (.sipush 255, 3) := by decide +kernel
theorem dJ1_charAt_3b067_12 : decode cJ1_charAt_3b067 12 = .ok (.iand, 1) := by decide +kernel
theorem dJ1_charAt_3b067_13 : decode cJ1_charAt_3b067 13 = .ok (.i2c, 1) := by decide +kernel
theorem dJ1_charAt_3b067_14 : decode cJ1_charAt_3b067 14 = .ok (.ireturn, 1) := by decide +kernel
theorem dJ2_getChar_3b067_0 : decode cJ2_getChar_3b067 0 = .ok (.getstatic 44, 3) := by decide +kernel
theorem dJ2_getChar_3b067_3 : decode cJ2_getChar_3b067 3 = .ok (.ifCond .ne 25, 3) := by decide +kernel
theorem dJ2_getChar_3b067_6 : decode cJ2_getChar_3b067 6 = .ok (.iload_n 1, 1) := by decide +kernel
theorem dJ2_getChar_3b067_7 : decode cJ2_getChar_3b067 7 = .ok (.ifCond .lt 11, 3) := by decide +kernel
theorem dJ2_getChar_3b067_10 : decode cJ2_getChar_3b067 10 = .ok (.iload_n 1, 1) := by decide +kernel
theorem dJ2_getChar_3b067_11 : decode cJ2_getChar_3b067 11 = .ok (.aload_n 0, 1) := by decide +kernel
theorem dJ2_getChar_3b067_12 : decode cJ2_getChar_3b067 12 = .ok (.invokestatic 48, 3) := by decide +kernel
theorem dJ2_getChar_3b067_15 : decode cJ2_getChar_3b067 15 = .ok (.if_icmp .lt 13, 3) := by decide +kernel
theorem dJ2_getChar_3b067_18 : decode cJ2_getChar_3b067 18 = .ok (.new 52, 3) := by decide +kernel
theorem dJ2_getChar_3b067_21 : decode cJ2_getChar_3b067 21 = .ok (.dup, 1) := by decide +kernel
theorem dJ2_getChar_3b067_22 : decode cJ2_getChar_3b067 22 = .ok (.ldc 54, 2) := by decide +kernel
theorem dJ2_getChar_3b067_24 : decode cJ2_getChar_3b067 24 = .ok (.invokespecial 56, 3) := by decide +kernel
theorem dJ2_getChar_3b067_27 : decode cJ2_getChar_3b067 27 = .ok (.athrow, 1) := by decide +kernel
theorem dJ2_getChar_3b067_28 : decode cJ2_getChar_3b067 28 = .ok (.iload_n 1, 1) := by decide +kernel
theorem dJ2_getChar_3b067_29 : decode cJ2_getChar_3b067 29 = .ok (.iconst 1, 1) := by decide +kernel
theorem dJ2_getChar_3b067_30 : decode cJ2_getChar_3b067 30 = .ok (.ishl, 1) := by decide +kernel
theorem dJ2_getChar_3b067_31 : decode cJ2_getChar_3b067 31 = .ok (.istore_n 1, 1) := by decide +kernel
theorem dJ2_getChar_3b067_32 : decode cJ2_getChar_3b067 32 = .ok (.aload_n 0, 1) := by decide +kernel
theorem dJ2_getChar_3b067_33 : decode cJ2_getChar_3b067 33 = .ok (.iload_n 1, 1) := by decide +kernel
theorem dJ2_getChar_3b067_34 : decode cJ2_getChar_3b067 34 = .ok (.iinc 1 1, 3) := by decide +kernel
theorem dJ2_getChar_3b067_37 : decode cJ2_getChar_3b067 37 = .ok (.baload, 1) := by decide +kernel
theorem dJ2_getChar_3b067_38 : decode cJ2_getChar_3b067 38 = .ok (.sipush 255, 3) := by decide +kernel
theorem dJ2_getChar_3b067_41 : decode cJ2_getChar_3b067 41 = .ok (.iand, 1) := by decide +kernel
theorem dJ2_getChar_3b067_42 : decode cJ2_getChar_3b067 42 = .ok (.getstatic 59, 3) := by decide +kernel
theorem dJ2_getChar_3b067_45 : decode cJ2_getChar_3b067 45 = .ok (.ishl, 1) := by decide +kernel
theorem dJ2_getChar_3b067_46 : decode cJ2_getChar_3b067 46 = .ok (.aload_n 0, 1) := by decide +kernel
theorem dJ2_getChar_3b067_47 : decode cJ2_getChar_3b067 47 = .ok (.iload_n 1, 1) := by decide +kernel
theorem dJ2_getChar_3b067_48 : decode cJ2_getChar_3b067 48 = .ok (.baload, 1) := by decide +kernel
theorem dJ2_getChar_3b067_49 : decode cJ2_getChar_3b067 49 = .ok (.sipush 255, 3) := by decide +kernel
theorem dJ2_getChar_3b067_52 : decode cJ2_getChar_3b067 52 = .ok (.iand, 1) := by decide +kernel
theorem dJ2_getChar_3b067_53 : decode cJ2_getChar_3b067 53 = .ok (.getstatic 63, 3) := by decide +kernel
theorem dJ2_getChar_3b067_56 : decode cJ2_getChar_3b067 56 = .ok (.ishl, 1) := by decide +kernel
theorem dJ2_getChar_3b067_57 : decode cJ2_getChar_3b067 57 = .ok (.ior, 1) := by decide +kernel
theorem dJ2_getChar_3b067_58 : decode cJ2_getChar_3b067 58 = .ok (.i2c, 1) := by decide +kernel
theorem dJ2_getChar_3b067_59 : decode cJ2_getChar_3b067 59 = .ok (.ireturn, 1) := by decide +kernel
theorem dJ2_length_9d52b_0 : decode cJ2_length_9d52b 0 = .ok (.aload_n 0, 1) := by decide +kernel
theorem dJ2_length_9d52b_1 : decode cJ2_length_9d52b 1 = .ok (.arraylength, 1) := by decide +kernel
theorem dJ2_length_9d52b_2 : decode cJ2_length_9d52b 2 = .ok (.iconst 1, 1) := by decide +kernel
theorem dJ2_length_9d52b_3 : decode cJ2_length_9d52b 3 = .ok (.ishr, 1) := by decide +kernel
theorem dJ2_length_9d52b_4 : decode cJ2_length_9d52b 4 = .ok (.ireturn, 1) := by decide +kernel
theorem dJ2_charAt_3b067_0 : decode cJ2_charAt_3b067 0 = .ok (.iload_n 1, 1) := by decide +kernel
theorem dJ2_charAt_3b067_1 : decode cJ2_charAt_3b067 1 = .ok (.aload_n 0, 1) := by decide +kernel
theorem dJ2_charAt_3b067_2 : decode cJ2_charAt_3b067 2 = .ok (.invokestatic 67, 3) := by decide +kernel
theorem dJ2_charAt_3b067_5 : decode cJ2_charAt_3b067 5 = .ok (.aload_n 0, 1) := by decide +kernel
theorem dJ2_charAt_3b067_6 : decode cJ2_charAt_3b067 6 = .ok (.iload_n 1, 1) := by decide +kernel
theorem dJ2_charAt_3b067_7 : decode cJ2_charAt_3b067 7 = .ok (.invokestatic 71, 3) := by decide +kernel
theorem dJ2_charAt_3b067_10 : decode cJ2_charAt_3b067 10 = .ok (.ireturn, 1) := by decide +kernel
theorem dJ2_checkIndex_2214a_0 : decode cJ2_checkIndex_2214a 0 = .ok (.iload_n 0, 1) := by decide +kernel
theorem dJ2_checkIndex_2214a_1 : decode cJ2_checkIndex_2214a 1 = .ok (.aload_n 1, 1) := by decide +kernel
theorem dJ2_checkIndex_2214a_2 : decode cJ2_checkIndex_2214a 2 = .ok (.invokestatic 48, 3) := by decide +kernel
theorem dJ2_checkIndex_2214a_5 : decode cJ2_checkIndex_2214a 5 = .ok (.invokestatic 414, 3) := by decide +kernel
theorem dJ2_checkIndex_2214a_8 : decode cJ2_checkIndex_2214a 8 = .ok (.return_, 1) := by decide +kernel
theorem dJ7_fill_53178_0 : decode cJ7_fill_53178 0 = .ok (.iconst 0, 1) := by decide +kernel
theorem dJ7_fill_53178_1 : decode cJ7_fill_53178 1 = .ok (.istore_n 2, 1) := by decide +kernel
theorem dJ7_fill_53178_2 : decode cJ7_fill_53178 2 = .ok (.aload_n 0, 1) := by decide +kernel
theorem dJ7_fill_53178_3 : decode cJ7_fill_53178 3 = .ok (.arraylength, 1) := by decide +kernel
theorem dJ7_fill_53178_4 : decode cJ7_fill_53178 4 = .ok (.istore_n 3, 1) := by decide +kernel
theorem dJ7_fill_53178_5 : decode cJ7_fill_53178 5 = .ok (.iload_n 2, 1) := by decide +kernel
theorem dJ7_fill_53178_6 : decode cJ7_fill_53178 6 = .ok (.iload_n 3, 1) := by decide +kernel
theorem dJ7_fill_53178_7 : decode cJ7_fill_53178 7 = .ok (.if_icmp .ge 13, 3) := by decide +kernel
theorem dJ7_fill_53178_10 : decode cJ7_fill_53178 10 = .ok (.aload_n 0, 1) := by decide +kernel
theorem dJ7_fill_53178_11 : decode cJ7_fill_53178 11 = .ok (.iload_n 2, 1) := by decide +kernel
theorem dJ7_fill_53178_12 : decode cJ7_fill_53178 12 = .ok (.iload_n 1, 1) := by decide +kernel
theorem dJ7_fill_53178_13 : decode cJ7_fill_53178 13 = .ok (.iastore, 1) := by decide +kernel
theorem dJ7_fill_53178_14 : decode cJ7_fill_53178 14 = .ok (.iinc 2 1, 3) := by decide +kernel
theorem dJ7_fill_53178_17 : decode cJ7_fill_53178 17 = .ok (.goto (-12), 3) := by decide +kernel
theorem dJ7_fill_53178_20 : decode cJ7_fill_53178 20 = .ok (.return_, 1) := by decide +kernel
theorem dJ7_copyOf_59c91_0 : decode cJ7_copyOf_59c91 0 = .ok (.iload_n 1, 1) := by decide +kernel
theorem dJ7_copyOf_59c91_1 : decode cJ7_copyOf_59c91 1 = .ok (.aload_n 0, 1) := by decide +kernel
theorem dJ7_copyOf_59c91_2 : decode cJ7_copyOf_59c91 2 = .ok (.arraylength, 1) := by decide +kernel
theorem dJ7_copyOf_59c91_3 : decode cJ7_copyOf_59c91 3 = .ok (.if_icmp .ne 11, 3) := by decide +kernel
theorem dJ7_copyOf_59c91_6 : decode cJ7_copyOf_59c91 6 = .ok (.aload_n 0, 1) := by decide +kernel
theorem dJ7_copyOf_59c91_7 : decode cJ7_copyOf_59c91 7 = .ok (.invokevirtual 316, 3) := by decide +kernel
theorem dJ7_copyOf_59c91_10 : decode cJ7_copyOf_59c91 10 = .ok (.checkcast 317, 3) := by decide +kernel
theorem dJ7_copyOf_59c91_13 : decode cJ7_copyOf_59c91 13 = .ok (.areturn, 1) := by decide +kernel
theorem dJ7_copyOf_59c91_14 : decode cJ7_copyOf_59c91 14 = .ok (.iload_n 1, 1) := by decide +kernel
theorem dJ7_copyOf_59c91_15 : decode cJ7_copyOf_59c91 15 = .ok (.newarray .int, 2) := by decide +kernel
theorem dJ7_copyOf_59c91_17 : decode cJ7_copyOf_59c91 17 = .ok (.astore_n 2, 1) := by decide +kernel
theorem dJ7_copyOf_59c91_18 : decode cJ7_copyOf_59c91 18 = .ok (.aload_n 0, 1) := by decide +kernel
theorem dJ7_copyOf_59c91_19 : decode cJ7_copyOf_59c91 19 = .ok (.iconst 0, 1) := by decide +kernel
theorem dJ7_copyOf_59c91_20 : decode cJ7_copyOf_59c91 20 = .ok (.aload_n 2, 1) := by decide +kernel
theorem dJ7_copyOf_59c91_21 : decode cJ7_copyOf_59c91 21 = .ok (.iconst 0, 1) := by decide +kernel
theorem dJ7_copyOf_59c91_22 : decode cJ7_copyOf_59c91 22 = .ok (.aload_n 0, 1) := by decide +kernel
theorem dJ7_copyOf_59c91_23 : decode cJ7_copyOf_59c91 23 = .ok (.arraylength, 1) := by decide +kernel
theorem dJ7_copyOf_59c91_24 : decode cJ7_copyOf_59c91 24 = .ok (.iload_n 1, 1) := by decide +kernel
theorem dJ7_copyOf_59c91_25 : decode cJ7_copyOf_59c91 25 = .ok (.invokestatic 304, 3) := by decide +kernel
theorem dJ7_copyOf_59c91_28 : decode cJ7_copyOf_59c91 28 = .ok (.invokestatic 150, 3) := by decide +kernel
theorem dJ7_copyOf_59c91_31 : decode cJ7_copyOf_59c91 31 = .ok (.aload_n 2, 1) := by decide +kernel
theorem dJ7_copyOf_59c91_32 : decode cJ7_copyOf_59c91 32 = .ok (.areturn, 1) := by decide +kernel
theorem dJ3_checkIndex_8e157_0 : decode cJ3_checkIndex_8e157 0 = .ok (.iload_n 0, 1) := by decide +kernel
theorem dJ3_checkIndex_8e157_1 : decode cJ3_checkIndex_8e157 1 = .ok (.ifCond .lt 8, 3) := by decide +kernel
theorem dJ3_checkIndex_8e157_4 : decode cJ3_checkIndex_8e157 4 = .ok (.iload_n 0, 1) := by decide +kernel
theorem dJ3_checkIndex_8e157_5 : decode cJ3_checkIndex_8e157 5 = .ok (.iload_n 1, 1) := by decide +kernel
theorem dJ3_checkIndex_8e157_6 : decode cJ3_checkIndex_8e157 6 = .ok (.if_icmp .lt 10, 3) := by decide +kernel
theorem dJ3_checkIndex_8e157_9 : decode cJ3_checkIndex_8e157 9 = .ok (.aload_n 2, 1) := by decide +kernel
theorem dJ3_checkIndex_8e157_10 : decode cJ3_checkIndex_8e157 10 = .ok (.iload_n 0, 1) := by decide +kernel
theorem dJ3_checkIndex_8e157_11 : decode cJ3_checkIndex_8e157 11 = .ok (.iload_n 1, 1) := by decide +kernel
theorem dJ3_checkIndex_8e157_12 : decode cJ3_checkIndex_8e157 12 = .ok (.invokestatic 95, 3) := by decide +kernel
theorem dJ3_checkIndex_8e157_15 : decode cJ3_checkIndex_8e157 15 = .ok (.athrow, 1) := by decide +kernel
theorem dJ3_checkIndex_8e157_16 : decode cJ3_checkIndex_8e157 16 = .ok (.iload_n 0, 1) := by decide +kernel
theorem dJ3_checkIndex_8e157_17 : decode cJ3_checkIndex_8e157 17 = .ok (.ireturn, 1) := by decide +kernel
theorem dL_text_0 : decode cL_text 0 = .ok (.aload_n 2, 1) := by decide +kernel
theorem dL_text_1 : decode cL_text 1 = .ok (.iconst 0, 1) := by decide +kernel
theorem dL_text_2 : decode cL_text 2 = .ok (.aload_n 0, 1) := by decide +kernel
theorem dL_text_3 : decode cL_text 3 = .ok (.iload_n 1, 1) := by decide +kernel
theorem dL_text_4 : decode cL_text 4 = .ok (.invokevirtual 7, 3) := by decide +kernel
theorem dL_text_7 : decode cL_text 7 = .ok (.i2l, 1) := by decide +kernel
theorem dL_text_8 : decode cL_text 8 = .ok (.lastore, 1) := by decide +kernel
theorem dL_text_9 : decode cL_text 9 = .ok (.goto 6, 3) := by decide +kernel
theorem dL_text_12 : decode cL_text 12 = .ok (.astore_n 3, 1) := by decide +kernel
theorem dL_text_13 : decode cL_text 13 = .ok (.iconst 1, 1) := by decide +kernel
theorem dL_text_14 : decode cL_text 14 = .ok (.ireturn, 1) := by decide +kernel
theorem dL_text_15 : decode cL_text 15 = .ok (.iconst 0, 1) := by decide +kernel
theorem dL_text_16 : decode cL_text 16 = .ok (.ireturn, 1) := by decide +kernel
theorem dL_sale_0 : decode cL_sale 0 = .ok (.aload 6, 2) := by decide +kernel
theorem dL_sale_2 : decode cL_sale 2 = .ok (.iconst 0, 1) := by decide +kernel
theorem dL_sale_3 : decode cL_sale 3 = .ok (.aload_n 0, 1) := by decide +kernel
theorem dL_sale_4 : decode cL_sale 4 = .ok (.iload_n 1, 1) := by decide +kernel
theorem dL_sale_5 : decode cL_sale 5 = .ok (.iload_n 2, 1) := by decide +kernel
theorem dL_sale_6 : decode cL_sale 6 = .ok (.iload_n 3, 1) := by decide +kernel
theorem dL_sale_7 : decode cL_sale 7 = .ok (.iload 4, 2) := by decide +kernel
theorem dL_sale_9 : decode cL_sale 9 = .ok (.iload 5, 2) := by decide +kernel
theorem dL_sale_11 : decode cL_sale 11 = .ok (.invokevirtual 15, 3) := by decide +kernel
theorem dL_sale_14 : decode cL_sale 14 = .ok (.i2l, 1) := by decide +kernel
theorem dL_sale_15 : decode cL_sale 15 = .ok (.lastore, 1) := by decide +kernel
theorem dL_sale_16 : decode cL_sale 16 = .ok (.goto 15, 3) := by decide +kernel
theorem dL_sale_19 : decode cL_sale 19 = .ok (.astore 7, 2) := by decide +kernel
theorem dL_sale_21 : decode cL_sale 21 = .ok (.iconst 1, 1) := by decide +kernel
theorem dL_sale_22 : decode cL_sale 22 = .ok (.ireturn, 1) := by decide +kernel
theorem dL_sale_23 : decode cL_sale 23 = .ok (.astore 7, 2) := by decide +kernel
theorem dL_sale_25 : decode cL_sale 25 = .ok (.iconst 2, 1) := by decide +kernel
theorem dL_sale_26 : decode cL_sale 26 = .ok (.ireturn, 1) := by decide +kernel
theorem dL_sale_27 : decode cL_sale 27 = .ok (.astore 7, 2) := by decide +kernel
theorem dL_sale_29 : decode cL_sale 29 = .ok (.iconst 3, 1) := by decide +kernel
theorem dL_sale_30 : decode cL_sale 30 = .ok (.ireturn, 1) := by decide +kernel
theorem dL_sale_31 : decode cL_sale 31 = .ok (.iconst 0, 1) := by decide +kernel
theorem dL_sale_32 : decode cL_sale 32 = .ok (.ireturn, 1) := by decide +kernel
theorem dL_stock_0 : decode cL_stock 0 = .ok (.aload_n 3, 1) := by decide +kernel
theorem dL_stock_1 : decode cL_stock 1 = .ok (.iconst 0, 1) := by decide +kernel
theorem dL_stock_2 : decode cL_stock 2 = .ok (.aload_n 0, 1) := by decide +kernel
theorem dL_stock_3 : decode cL_stock 3 = .ok (.iload_n 1, 1) := by decide +kernel
theorem dL_stock_4 : decode cL_stock 4 = .ok (.iload_n 2, 1) := by decide +kernel
theorem dL_stock_5 : decode cL_stock 5 = .ok (.invokevirtual 23, 3) := by decide +kernel
theorem dL_stock_8 : decode cL_stock 8 = .ok (.i2l, 1) := by decide +kernel
theorem dL_stock_9 : decode cL_stock 9 = .ok (.lastore, 1) := by decide +kernel
theorem dL_stock_10 : decode cL_stock 10 = .ok (.goto 11, 3) := by decide +kernel
theorem dL_stock_13 : decode cL_stock 13 = .ok (.astore 4, 2) := by decide +kernel
theorem dL_stock_15 : decode cL_stock 15 = .ok (.iconst 1, 1) := by decide +kernel
theorem dL_stock_16 : decode cL_stock 16 = .ok (.ireturn, 1) := by decide +kernel
theorem dL_stock_17 : decode cL_stock 17 = .ok (.astore 4, 2) := by decide +kernel
theorem dL_stock_19 : decode cL_stock 19 = .ok (.iconst 2, 1) := by decide +kernel
theorem dL_stock_20 : decode cL_stock 20 = .ok (.ireturn, 1) := by decide +kernel
theorem dL_stock_21 : decode cL_stock 21 = .ok (.iconst 0, 1) := by decide +kernel
theorem dL_stock_22 : decode cL_stock 22 = .ok (.ireturn, 1) := by decide +kernel
theorem dL_mark_0 : decode cL_mark 0 = .ok (.aload_n 2, 1) := by decide +kernel
theorem dL_mark_1 : decode cL_mark 1 = .ok (.iconst 0, 1) := by decide +kernel
theorem dL_mark_2 : decode cL_mark 2 = .ok (.aload_n 0, 1) := by decide +kernel
theorem dL_mark_3 : decode cL_mark 3 = .ok (.iload_n 1, 1) := by decide +kernel
theorem dL_mark_4 : decode cL_mark 4 = .ok (.invokevirtual 27, 3) := by decide +kernel
theorem dL_mark_7 : decode cL_mark 7 = .ok (.i2l, 1) := by decide +kernel
theorem dL_mark_8 : decode cL_mark 8 = .ok (.lastore, 1) := by decide +kernel
theorem dL_mark_9 : decode cL_mark 9 = .ok (.goto 6, 3) := by decide +kernel
theorem dL_mark_12 : decode cL_mark 12 = .ok (.astore_n 3, 1) := by decide +kernel
theorem dL_mark_13 : decode cL_mark 13 = .ok (.iconst 1, 1) := by decide +kernel
theorem dL_mark_14 : decode cL_mark 14 = .ok (.ireturn, 1) := by decide +kernel
theorem dL_mark_15 : decode cL_mark 15 = .ok (.iconst 0, 1) := by decide +kernel
theorem dL_mark_16 : decode cL_mark 16 = .ok (.ireturn, 1) := by decide +kernel
theorem dL_night_0 : decode cL_night 0 = .ok (.aload_n 1, 1) := by decide +kernel
theorem dL_night_1 : decode cL_night 1 = .ok (.iconst 0, 1) := by decide +kernel
theorem dL_night_2 : decode cL_night 2 = .ok (.aload_n 0, 1) := by decide +kernel
theorem dL_night_3 : decode cL_night 3 = .ok (.invokevirtual 30, 3) := by decide +kernel
theorem dL_night_6 : decode cL_night 6 = .ok (.i2l, 1) := by decide +kernel
theorem dL_night_7 : decode cL_night 7 = .ok (.lastore, 1) := by decide +kernel
theorem dL_night_8 : decode cL_night 8 = .ok (.goto 6, 3) := by decide +kernel
theorem dL_night_11 : decode cL_night 11 = .ok (.astore_n 2, 1) := by decide +kernel
theorem dL_night_12 : decode cL_night 12 = .ok (.iconst 1, 1) := by decide +kernel
theorem dL_night_13 : decode cL_night 13 = .ok (.ireturn, 1) := by decide +kernel
theorem dL_night_14 : decode cL_night 14 = .ok (.iconst 0, 1) := by decide +kernel
theorem dL_night_15 : decode cL_night 15 = .ok (.ireturn, 1) := by decide +kernel
theorem dL_buyin_0 : decode cL_buyin 0 = .ok (.aload_n 3, 1) := by decide +kernel
theorem dL_buyin_1 : decode cL_buyin 1 = .ok (.iconst 0, 1) := by decide +kernel
theorem dL_buyin_2 : decode cL_buyin 2 = .ok (.aload_n 0, 1) := by decide +kernel
theorem dL_buyin_3 : decode cL_buyin 3 = .ok (.iload_n 1, 1) := by decide +kernel
theorem dL_buyin_4 : decode cL_buyin 4 = .ok (.iload_n 2, 1) := by decide +kernel
theorem dL_buyin_5 : decode cL_buyin 5 = .ok (.invokevirtual 34, 3) := by decide +kernel
theorem dL_buyin_8 : decode cL_buyin 8 = .ok (.i2l, 1) := by decide +kernel
theorem dL_buyin_9 : decode cL_buyin 9 = .ok (.lastore, 1) := by decide +kernel
theorem dL_buyin_10 : decode cL_buyin 10 = .ok (.goto 15, 3) := by decide +kernel
theorem dL_buyin_13 : decode cL_buyin 13 = .ok (.astore 4, 2) := by decide +kernel
theorem dL_buyin_15 : decode cL_buyin 15 = .ok (.iconst 1, 1) := by decide +kernel
theorem dL_buyin_16 : decode cL_buyin 16 = .ok (.ireturn, 1) := by decide +kernel
theorem dL_buyin_17 : decode cL_buyin 17 = .ok (.astore 4, 2) := by decide +kernel
theorem dL_buyin_19 : decode cL_buyin 19 = .ok (.iconst 2, 1) := by decide +kernel
theorem dL_buyin_20 : decode cL_buyin 20 = .ok (.ireturn, 1) := by decide +kernel
theorem dL_buyin_21 : decode cL_buyin 21 = .ok (.astore 4, 2) := by decide +kernel
theorem dL_buyin_23 : decode cL_buyin 23 = .ok (.iconst 3, 1) := by decide +kernel
theorem dL_buyin_24 : decode cL_buyin 24 = .ok (.ireturn, 1) := by decide +kernel
theorem dL_buyin_25 : decode cL_buyin 25 = .ok (.iconst 0, 1) := by decide +kernel
theorem dL_buyin_26 : decode cL_buyin 26 = .ok (.ireturn, 1) := by decide +kernel
theorem dL_told_0 : decode cL_told 0 = .ok (.aload_n 2, 1) := by decide +kernel
theorem dL_told_1 : decode cL_told 1 = .ok (.iconst 0, 1) := by decide +kernel
theorem dL_told_2 : decode cL_told 2 = .ok (.aload_n 0, 1) := by decide +kernel
theorem dL_told_3 : decode cL_told 3 = .ok (.iload_n 1, 1) := by decide +kernel
theorem dL_told_4 : decode cL_told 4 = .ok (.invokevirtual 37, 3) := by decide +kernel
theorem dL_told_7 : decode cL_told 7 = .ok (.i2l, 1) := by decide +kernel
theorem dL_told_8 : decode cL_told 8 = .ok (.lastore, 1) := by decide +kernel
theorem dL_told_9 : decode cL_told 9 = .ok (.goto 6, 3) := by decide +kernel
theorem dL_told_12 : decode cL_told 12 = .ok (.astore_n 3, 1) := by decide +kernel
theorem dL_told_13 : decode cL_told 13 = .ok (.iconst 1, 1) := by decide +kernel
theorem dL_told_14 : decode cL_told 14 = .ok (.ireturn, 1) := by decide +kernel
theorem dL_told_15 : decode cL_told 15 = .ok (.iconst 0, 1) := by decide +kernel
theorem dL_told_16 : decode cL_told 16 = .ok (.ireturn, 1) := by decide +kernel
theorem dL_dealer_0 : decode cL_dealer 0 = .ok (.aload_n 3, 1) := by decide +kernel
theorem dL_dealer_1 : decode cL_dealer 1 = .ok (.iconst 0, 1) := by decide +kernel
theorem dL_dealer_2 : decode cL_dealer 2 = .ok (.aload_n 0, 1) := by decide +kernel
theorem dL_dealer_3 : decode cL_dealer 3 = .ok (.iload_n 1, 1) := by decide +kernel
theorem dL_dealer_4 : decode cL_dealer 4 = .ok (.iload_n 2, 1) := by decide +kernel
theorem dL_dealer_5 : decode cL_dealer 5 = .ok (.invokevirtual 40, 3) := by decide +kernel
theorem dL_dealer_8 : decode cL_dealer 8 = .ok (.lastore, 1) := by decide +kernel
theorem dL_dealer_9 : decode cL_dealer 9 = .ok (.goto 11, 3) := by decide +kernel
theorem dL_dealer_12 : decode cL_dealer 12 = .ok (.astore 4, 2) := by decide +kernel
theorem dL_dealer_14 : decode cL_dealer 14 = .ok (.iconst 1, 1) := by decide +kernel
theorem dL_dealer_15 : decode cL_dealer 15 = .ok (.ireturn, 1) := by decide +kernel
theorem dL_dealer_16 : decode cL_dealer 16 = .ok (.astore 4, 2) := by decide +kernel
theorem dL_dealer_18 : decode cL_dealer 18 = .ok (.iconst 2, 1) := by decide +kernel
theorem dL_dealer_19 : decode cL_dealer 19 = .ok (.ireturn, 1) := by decide +kernel
theorem dL_dealer_20 : decode cL_dealer 20 = .ok (.iconst 0, 1) := by decide +kernel
theorem dL_dealer_21 : decode cL_dealer 21 = .ok (.ireturn, 1) := by decide +kernel
theorem dL_of_0 : decode cL_of 0 = .ok (.aload_n 3, 1) := by decide +kernel
theorem dL_of_1 : decode cL_of 1 = .ok (.iconst 0, 1) := by decide +kernel
theorem dL_of_2 : decode cL_of 2 = .ok (.aload_n 0, 1) := by decide +kernel
theorem dL_of_3 : decode cL_of 3 = .ok (.iload_n 1, 1) := by decide +kernel
theorem dL_of_4 : decode cL_of 4 = .ok (.iload_n 2, 1) := by decide +kernel
theorem dL_of_5 : decode cL_of 5 = .ok (.invokevirtual 44, 3) := by decide +kernel
theorem dL_of_8 : decode cL_of 8 = .ok (.i2l, 1) := by decide +kernel
theorem dL_of_9 : decode cL_of 9 = .ok (.lastore, 1) := by decide +kernel
theorem dL_of_10 : decode cL_of 10 = .ok (.goto 11, 3) := by decide +kernel
theorem dL_of_13 : decode cL_of 13 = .ok (.astore 4, 2) := by decide +kernel
theorem dL_of_15 : decode cL_of 15 = .ok (.iconst 1, 1) := by decide +kernel
theorem dL_of_16 : decode cL_of 16 = .ok (.ireturn, 1) := by decide +kernel
theorem dL_of_17 : decode cL_of 17 = .ok (.astore 4, 2) := by decide +kernel
theorem dL_of_19 : decode cL_of 19 = .ok (.iconst 2, 1) := by decide +kernel
theorem dL_of_20 : decode cL_of 20 = .ok (.ireturn, 1) := by decide +kernel
theorem dL_of_21 : decode cL_of 21 = .ok (.iconst 0, 1) := by decide +kernel
theorem dL_of_22 : decode cL_of 22 = .ok (.ireturn, 1) := by decide +kernel
theorem dL_rule_0 : decode cL_rule 0 = .ok (.aload_n 2, 1) := by decide +kernel
theorem dL_rule_1 : decode cL_rule 1 = .ok (.iconst 0, 1) := by decide +kernel
theorem dL_rule_2 : decode cL_rule 2 = .ok (.aload_n 0, 1) := by decide +kernel
theorem dL_rule_3 : decode cL_rule 3 = .ok (.iload_n 1, 1) := by decide +kernel
theorem dL_rule_4 : decode cL_rule 4 = .ok (.invokevirtual 47, 3) := by decide +kernel
theorem dL_rule_7 : decode cL_rule 7 = .ok (.lastore, 1) := by decide +kernel
theorem dL_rule_8 : decode cL_rule 8 = .ok (.goto 6, 3) := by decide +kernel
theorem dL_rule_11 : decode cL_rule 11 = .ok (.astore_n 3, 1) := by decide +kernel
theorem dL_rule_12 : decode cL_rule 12 = .ok (.iconst 1, 1) := by decide +kernel
theorem dL_rule_13 : decode cL_rule 13 = .ok (.ireturn, 1) := by decide +kernel
theorem dL_rule_14 : decode cL_rule 14 = .ok (.iconst 0, 1) := by decide +kernel
theorem dL_rule_15 : decode cL_rule 15 = .ok (.ireturn, 1) := by decide +kernel
theorem dL_part_0 : decode cL_part 0 = .ok (.aload 4, 2) := by decide +kernel
theorem dL_part_2 : decode cL_part 2 = .ok (.iconst 0, 1) := by decide +kernel
theorem dL_part_3 : decode cL_part 3 = .ok (.aload_n 0, 1) := by decide +kernel
theorem dL_part_4 : decode cL_part 4 = .ok (.iload_n 1, 1) := by decide +kernel
theorem dL_part_5 : decode cL_part 5 = .ok (.iload_n 2, 1) := by decide +kernel
theorem dL_part_6 : decode cL_part 6 = .ok (.iload_n 3, 1) := by decide +kernel
theorem dL_part_7 : decode cL_part 7 = .ok (.invokevirtual 51, 3) := by decide +kernel
theorem dL_part_10 : decode cL_part 10 = .ok (.i2l, 1) := by decide +kernel
theorem dL_part_11 : decode cL_part 11 = .ok (.lastore, 1) := by decide +kernel
theorem dL_part_12 : decode cL_part 12 = .ok (.goto 11, 3) := by decide +kernel
theorem dL_part_15 : decode cL_part 15 = .ok (.astore 5, 2) := by decide +kernel
theorem dL_part_17 : decode cL_part 17 = .ok (.iconst 1, 1) := by decide +kernel
theorem dL_part_18 : decode cL_part 18 = .ok (.ireturn, 1) := by decide +kernel
theorem dL_part_19 : decode cL_part 19 = .ok (.astore 5, 2) := by decide +kernel
theorem dL_part_21 : decode cL_part 21 = .ok (.iconst 2, 1) := by decide +kernel
theorem dL_part_22 : decode cL_part 22 = .ok (.ireturn, 1) := by decide +kernel
theorem dL_part_23 : decode cL_part 23 = .ok (.iconst 0, 1) := by decide +kernel
theorem dL_part_24 : decode cL_part 24 = .ok (.ireturn, 1) := by decide +kernel
theorem dL_parts_0 : decode cL_parts 0 = .ok (.aload_n 2, 1) := by decide +kernel
theorem dL_parts_1 : decode cL_parts 1 = .ok (.iconst 0, 1) := by decide +kernel
theorem dL_parts_2 : decode cL_parts 2 = .ok (.aload_n 0, 1) := by decide +kernel
theorem dL_parts_3 : decode cL_parts 3 = .ok (.iload_n 1, 1) := by decide +kernel
theorem dL_parts_4 : decode cL_parts 4 = .ok (.invokevirtual 55, 3) := by decide +kernel
theorem dL_parts_7 : decode cL_parts 7 = .ok (.i2l, 1) := by decide +kernel
theorem dL_parts_8 : decode cL_parts 8 = .ok (.lastore, 1) := by decide +kernel
theorem dL_parts_9 : decode cL_parts 9 = .ok (.goto 6, 3) := by decide +kernel
theorem dL_parts_12 : decode cL_parts 12 = .ok (.astore_n 3, 1) := by decide +kernel
theorem dL_parts_13 : decode cL_parts 13 = .ok (.iconst 1, 1) := by decide +kernel
theorem dL_parts_14 : decode cL_parts 14 = .ok (.ireturn, 1) := by decide +kernel
theorem dL_parts_15 : decode cL_parts 15 = .ok (.iconst 0, 1) := by decide +kernel
theorem dL_parts_16 : decode cL_parts 16 = .ok (.ireturn, 1) := by decide +kernel
theorem dL_chain_0 : decode cL_chain 0 = .ok (.aload_n 3, 1) := by decide +kernel
theorem dL_chain_1 : decode cL_chain 1 = .ok (.iconst 0, 1) := by decide +kernel
theorem dL_chain_2 : decode cL_chain 2 = .ok (.aload_n 0, 1) := by decide +kernel
theorem dL_chain_3 : decode cL_chain 3 = .ok (.iload_n 1, 1) := by decide +kernel
theorem dL_chain_4 : decode cL_chain 4 = .ok (.iload_n 2, 1) := by decide +kernel
theorem dL_chain_5 : decode cL_chain 5 = .ok (.invokevirtual 58, 3) := by decide +kernel
theorem dL_chain_8 : decode cL_chain 8 = .ok (.i2l, 1) := by decide +kernel
theorem dL_chain_9 : decode cL_chain 9 = .ok (.lastore, 1) := by decide +kernel
theorem dL_chain_10 : decode cL_chain 10 = .ok (.goto 7, 3) := by decide +kernel
theorem dL_chain_13 : decode cL_chain 13 = .ok (.astore 4, 2) := by decide +kernel
theorem dL_chain_15 : decode cL_chain 15 = .ok (.iconst 1, 1) := by decide +kernel
theorem dL_chain_16 : decode cL_chain 16 = .ok (.ireturn, 1) := by decide +kernel
theorem dL_chain_17 : decode cL_chain 17 = .ok (.iconst 0, 1) := by decide +kernel
theorem dL_chain_18 : decode cL_chain 18 = .ok (.ireturn, 1) := by decide +kernel
theorem dL_ring_0 : decode cL_ring 0 = .ok (.aload_n 2, 1) := by decide +kernel
theorem dL_ring_1 : decode cL_ring 1 = .ok (.iconst 0, 1) := by decide +kernel
theorem dL_ring_2 : decode cL_ring 2 = .ok (.aload_n 0, 1) := by decide +kernel
theorem dL_ring_3 : decode cL_ring 3 = .ok (.iload_n 1, 1) := by decide +kernel
theorem dL_ring_4 : decode cL_ring 4 = .ok (.invokevirtual 61, 3) := by decide +kernel
theorem dL_ring_7 : decode cL_ring 7 = .ok (.i2l, 1) := by decide +kernel
theorem dL_ring_8 : decode cL_ring 8 = .ok (.lastore, 1) := by decide +kernel
theorem dL_ring_9 : decode cL_ring 9 = .ok (.goto 6, 3) := by decide +kernel
theorem dL_ring_12 : decode cL_ring 12 = .ok (.astore_n 3, 1) := by decide +kernel
theorem dL_ring_13 : decode cL_ring 13 = .ok (.iconst 1, 1) := by decide +kernel
theorem dL_ring_14 : decode cL_ring 14 = .ok (.ireturn, 1) := by decide +kernel
theorem dL_ring_15 : decode cL_ring 15 = .ok (.iconst 0, 1) := by decide +kernel
theorem dL_ring_16 : decode cL_ring 16 = .ok (.ireturn, 1) := by decide +kernel
theorem dL_most_0 : decode cL_most 0 = .ok (.aload_n 2, 1) := by decide +kernel
theorem dL_most_1 : decode cL_most 1 = .ok (.iconst 0, 1) := by decide +kernel
theorem dL_most_2 : decode cL_most 2 = .ok (.aload_n 0, 1) := by decide +kernel
theorem dL_most_3 : decode cL_most 3 = .ok (.iload_n 1, 1) := by decide +kernel
theorem dL_most_4 : decode cL_most 4 = .ok (.invokevirtual 64, 3) := by decide +kernel
theorem dL_most_7 : decode cL_most 7 = .ok (.lastore, 1) := by decide +kernel
theorem dL_most_8 : decode cL_most 8 = .ok (.goto 6, 3) := by decide +kernel
theorem dL_most_11 : decode cL_most 11 = .ok (.astore_n 3, 1) := by decide +kernel
theorem dL_most_12 : decode cL_most 12 = .ok (.iconst 1, 1) := by decide +kernel
theorem dL_most_13 : decode cL_most 13 = .ok (.ireturn, 1) := by decide +kernel
theorem dL_most_14 : decode cL_most 14 = .ok (.iconst 0, 1) := by decide +kernel
theorem dL_most_15 : decode cL_most 15 = .ok (.ireturn, 1) := by decide +kernel
theorem dL_foretold_0 : decode cL_foretold 0 = .ok (.aload_n 2, 1) := by decide +kernel
theorem dL_foretold_1 : decode cL_foretold 1 = .ok (.iconst 0, 1) := by decide +kernel
theorem dL_foretold_2 : decode cL_foretold 2 = .ok (.aload_n 0, 1) := by decide +kernel
theorem dL_foretold_3 : decode cL_foretold 3 = .ok (.iload_n 1, 1) := by decide +kernel
theorem dL_foretold_4 : decode cL_foretold 4 = .ok (.invokevirtual 67, 3) := by decide +kernel
theorem dL_foretold_7 : decode cL_foretold 7 = .ok (.i2l, 1) := by decide +kernel
theorem dL_foretold_8 : decode cL_foretold 8 = .ok (.lastore, 1) := by decide +kernel
theorem dL_foretold_9 : decode cL_foretold 9 = .ok (.goto 6, 3) := by decide +kernel
theorem dL_foretold_12 : decode cL_foretold 12 = .ok (.astore_n 3, 1) := by decide +kernel
theorem dL_foretold_13 : decode cL_foretold 13 = .ok (.iconst 1, 1) := by decide +kernel
theorem dL_foretold_14 : decode cL_foretold 14 = .ok (.ireturn, 1) := by decide +kernel
theorem dL_foretold_15 : decode cL_foretold 15 = .ok (.iconst 0, 1) := by decide +kernel
theorem dL_foretold_16 : decode cL_foretold 16 = .ok (.ireturn, 1) := by decide +kernel
theorem dL_without_0 : decode cL_without 0 = .ok (.aload_n 2, 1) := by decide +kernel
theorem dL_without_1 : decode cL_without 1 = .ok (.iconst 0, 1) := by decide +kernel
theorem dL_without_2 : decode cL_without 2 = .ok (.aload_n 0, 1) := by decide +kernel
theorem dL_without_3 : decode cL_without 3 = .ok (.iload_n 1, 1) := by decide +kernel
theorem dL_without_4 : decode cL_without 4 = .ok (.invokevirtual 70, 3) := by decide +kernel
theorem dL_without_7 : decode cL_without 7 = .ok (.lastore, 1) := by decide +kernel
theorem dL_without_8 : decode cL_without 8 = .ok (.goto 6, 3) := by decide +kernel
theorem dL_without_11 : decode cL_without 11 = .ok (.astore_n 3, 1) := by decide +kernel
theorem dL_without_12 : decode cL_without 12 = .ok (.iconst 1, 1) := by decide +kernel
theorem dL_without_13 : decode cL_without 13 = .ok (.ireturn, 1) := by decide +kernel
theorem dL_without_14 : decode cL_without 14 = .ok (.iconst 0, 1) := by decide +kernel
theorem dL_without_15 : decode cL_without 15 = .ok (.ireturn, 1) := by decide +kernel
theorem dL_between_0 : decode cL_between 0 = .ok (.aload_n 3, 1) := by decide +kernel
theorem dL_between_1 : decode cL_between 1 = .ok (.iconst 0, 1) := by decide +kernel
theorem dL_between_2 : decode cL_between 2 = .ok (.aload_n 0, 1) := by decide +kernel
theorem dL_between_3 : decode cL_between 3 = .ok (.iload_n 1, 1) := by decide +kernel
theorem dL_between_4 : decode cL_between 4 = .ok (.iload_n 2, 1) := by decide +kernel
theorem dL_between_5 : decode cL_between 5 = .ok (.invokevirtual 73, 3) := by decide +kernel
theorem dL_between_8 : decode cL_between 8 = .ok (.i2l, 1) := by decide +kernel
theorem dL_between_9 : decode cL_between 9 = .ok (.lastore, 1) := by decide +kernel
theorem dL_between_10 : decode cL_between 10 = .ok (.goto 7, 3) := by decide +kernel
theorem dL_between_13 : decode cL_between 13 = .ok (.astore 4, 2) := by decide +kernel
theorem dL_between_15 : decode cL_between 15 = .ok (.iconst 1, 1) := by decide +kernel
theorem dL_between_16 : decode cL_between 16 = .ok (.ireturn, 1) := by decide +kernel
theorem dL_between_17 : decode cL_between 17 = .ok (.iconst 0, 1) := by decide +kernel
theorem dL_between_18 : decode cL_between 18 = .ok (.ireturn, 1) := by decide +kernel
theorem dL_law_0 : decode cL_law 0 = .ok (.new 8, 3) := by decide +kernel
theorem dL_law_3 : decode cL_law 3 = .ok (.dup, 1) := by decide +kernel
theorem dL_law_4 : decode cL_law 4 = .ok (.invokespecial 76, 3) := by decide +kernel
theorem dL_law_7 : decode cL_law 7 = .ok (.astore_n 1, 1) := by decide +kernel
theorem dL_law_8 : decode cL_law 8 = .ok (.new 77, 3) := by decide +kernel
theorem dL_law_11 : decode cL_law 11 = .ok (.dup, 1) := by decide +kernel
theorem dL_law_12 : decode cL_law 12 = .ok (.invokespecial 79, 3) := by decide +kernel
theorem dL_law_15 : decode cL_law 15 = .ok (.astore_n 2, 1) := by decide +kernel
theorem dL_law_16 : decode cL_law 16 = .ok (.iconst 1, 1) := by decide +kernel
theorem dL_law_17 : decode cL_law 17 = .ok (.newarray .long, 2) := by decide +kernel
theorem dL_law_19 : decode cL_law 19 = .ok (.astore_n 3, 1) := by decide +kernel
theorem dL_law_20 : decode cL_law 20 = .ok (.iconst 0, 1) := by decide +kernel
theorem dL_law_21 : decode cL_law 21 = .ok (.istore 4, 2) := by decide +kernel
theorem dL_law_23 : decode cL_law 23 = .ok (.iload 4, 2) := by decide +kernel
theorem dL_law_25 : decode cL_law 25 = .ok (.aload_n 0, 1) := by decide +kernel
theorem dL_law_26 : decode cL_law 26 = .ok (.arraylength, 1) := by decide +kernel
theorem dL_law_27 : decode cL_law 27 = .ok (.bipush 6, 2) := by decide +kernel
theorem dL_law_29 : decode cL_law 29 = .ok (.isub, 1) := by decide +kernel
theorem dL_law_30 : decode cL_law 30 = .ok (.if_icmp .gt 1434, 3) := by decide +kernel
theorem dL_law_33 : decode cL_law 33 = .ok (.aload_n 0, 1) := by decide +kernel
theorem dL_law_34 : decode cL_law 34 = .ok (.iload 4, 2) := by decide +kernel
theorem dL_law_36 : decode cL_law 36 = .ok (.iaload, 1) := by decide +kernel
theorem dL_law_37 : decode cL_law 37 = .ok (.bipush 31, 2) := by decide +kernel
theorem dL_law_39 : decode cL_law 39 = .ok (.iand, 1) := by decide +kernel
theorem dL_law_40 : decode cL_law 40 = .ok (.tableswitch 1418 0 24 #[116, 189, 245, 258, 362, 430, 486, 530, 598, 611, 667, 734, 802, 857, 937, 993, 1061, 1117, 1172, 1228, 1283, 1351, 1365, 1379, 1393], 116) := by decide +kernel
theorem dL_law_156 : decode cL_law 156 = .ok (.aload_n 1, 1) := by decide +kernel
theorem dL_law_157 : decode cL_law 157 = .ok (.aload_n 0, 1) := by decide +kernel
theorem dL_law_158 : decode cL_law 158 = .ok (.iload 4, 2) := by decide +kernel
theorem dL_law_160 : decode cL_law 160 = .ok (.iconst 1, 1) := by decide +kernel
theorem dL_law_161 : decode cL_law 161 = .ok (.iadd, 1) := by decide +kernel
theorem dL_law_162 : decode cL_law 162 = .ok (.iaload, 1) := by decide +kernel
theorem dL_law_163 : decode cL_law 163 = .ok (.aload_n 0, 1) := by decide +kernel
theorem dL_law_164 : decode cL_law 164 = .ok (.iload 4, 2) := by decide +kernel
theorem dL_law_166 : decode cL_law 166 = .ok (.iconst 2, 1) := by decide +kernel
theorem dL_law_167 : decode cL_law 167 = .ok (.iadd, 1) := by decide +kernel
theorem dL_law_168 : decode cL_law 168 = .ok (.iaload, 1) := by decide +kernel
theorem dL_law_169 : decode cL_law 169 = .ok (.aload_n 0, 1) := by decide +kernel
theorem dL_law_170 : decode cL_law 170 = .ok (.iload 4, 2) := by decide +kernel
theorem dL_law_172 : decode cL_law 172 = .ok (.iconst 3, 1) := by decide +kernel
theorem dL_law_173 : decode cL_law 173 = .ok (.iadd, 1) := by decide +kernel
theorem dL_law_174 : decode cL_law 174 = .ok (.iaload, 1) := by decide +kernel
theorem dL_law_175 : decode cL_law 175 = .ok (.aload_n 0, 1) := by decide +kernel
theorem dL_law_176 : decode cL_law 176 = .ok (.iload 4, 2) := by decide +kernel
theorem dL_law_178 : decode cL_law 178 = .ok (.iconst 4, 1) := by decide +kernel
theorem dL_law_179 : decode cL_law 179 = .ok (.iadd, 1) := by decide +kernel
theorem dL_law_180 : decode cL_law 180 = .ok (.iaload, 1) := by decide +kernel
theorem dL_law_181 : decode cL_law 181 = .ok (.aload_n 0, 1) := by decide +kernel
theorem dL_law_182 : decode cL_law 182 = .ok (.iload 4, 2) := by decide +kernel
theorem dL_law_184 : decode cL_law 184 = .ok (.iconst 5, 1) := by decide +kernel
theorem dL_law_185 : decode cL_law 185 = .ok (.iadd, 1) := by decide +kernel
theorem dL_law_186 : decode cL_law 186 = .ok (.iaload, 1) := by decide +kernel
theorem dL_law_187 : decode cL_law 187 = .ok (.invokevirtual 80, 3) := by decide +kernel
theorem dL_law_190 : decode cL_law 190 = .ok (.aload_n 2, 1) := by decide +kernel
theorem dL_law_191 : decode cL_law 191 = .ok (.aload_n 0, 1) := by decide +kernel
theorem dL_law_192 : decode cL_law 192 = .ok (.iload 4, 2) := by decide +kernel
theorem dL_law_194 : decode cL_law 194 = .ok (.iconst 1, 1) := by decide +kernel
theorem dL_law_195 : decode cL_law 195 = .ok (.iadd, 1) := by decide +kernel
theorem dL_law_196 : decode cL_law 196 = .ok (.iaload, 1) := by decide +kernel
theorem dL_law_197 : decode cL_law 197 = .ok (.aload_n 0, 1) := by decide +kernel
theorem dL_law_198 : decode cL_law 198 = .ok (.iload 4, 2) := by decide +kernel
theorem dL_law_200 : decode cL_law 200 = .ok (.iconst 2, 1) := by decide +kernel
theorem dL_law_201 : decode cL_law 201 = .ok (.iadd, 1) := by decide +kernel
theorem dL_law_202 : decode cL_law 202 = .ok (.iaload, 1) := by decide +kernel
theorem dL_law_203 : decode cL_law 203 = .ok (.aload_n 0, 1) := by decide +kernel
theorem dL_law_204 : decode cL_law 204 = .ok (.iload 4, 2) := by decide +kernel
theorem dL_law_206 : decode cL_law 206 = .ok (.iconst 3, 1) := by decide +kernel
theorem dL_law_207 : decode cL_law 207 = .ok (.iadd, 1) := by decide +kernel
theorem dL_law_208 : decode cL_law 208 = .ok (.iaload, 1) := by decide +kernel
theorem dL_law_209 : decode cL_law 209 = .ok (.aload_n 0, 1) := by decide +kernel
theorem dL_law_210 : decode cL_law 210 = .ok (.iload 4, 2) := by decide +kernel
theorem dL_law_212 : decode cL_law 212 = .ok (.iconst 4, 1) := by decide +kernel
theorem dL_law_213 : decode cL_law 213 = .ok (.iadd, 1) := by decide +kernel
theorem dL_law_214 : decode cL_law 214 = .ok (.iaload, 1) := by decide +kernel
theorem dL_law_215 : decode cL_law 215 = .ok (.aload_n 0, 1) := by decide +kernel
theorem dL_law_216 : decode cL_law 216 = .ok (.iload 4, 2) := by decide +kernel
theorem dL_law_218 : decode cL_law 218 = .ok (.iconst 5, 1) := by decide +kernel
theorem dL_law_219 : decode cL_law 219 = .ok (.iadd, 1) := by decide +kernel
theorem dL_law_220 : decode cL_law 220 = .ok (.iaload, 1) := by decide +kernel
theorem dL_law_221 : decode cL_law 221 = .ok (.invokevirtual 83, 3) := by decide +kernel
theorem dL_law_224 : decode cL_law 224 = .ok (.if_icmp .eq 1234, 3) := by decide +kernel
theorem dL_law_227 : decode cL_law 227 = .ok (.iconst 0, 1) := by decide +kernel
theorem dL_law_228 : decode cL_law 228 = .ok (.ireturn, 1) := by decide +kernel
theorem dL_law_229 : decode cL_law 229 = .ok (.aload_n 1, 1) := by decide +kernel
theorem dL_law_230 : decode cL_law 230 = .ok (.aload_n 0, 1) := by decide +kernel
theorem dL_law_231 : decode cL_law 231 = .ok (.iload 4, 2) := by decide +kernel
theorem dL_law_233 : decode cL_law 233 = .ok (.iconst 1, 1) := by decide +kernel
theorem dL_law_234 : decode cL_law 234 = .ok (.iadd, 1) := by decide +kernel
theorem dL_law_235 : decode cL_law 235 = .ok (.iaload, 1) := by decide +kernel
theorem dL_law_236 : decode cL_law 236 = .ok (.aload_n 3, 1) := by decide +kernel
theorem dL_law_237 : decode cL_law 237 = .ok (.invokestatic 84, 3) := by decide +kernel
theorem dL_law_240 : decode cL_law 240 = .ok (.istore 5, 2) := by decide +kernel
theorem dL_law_242 : decode cL_law 242 = .ok (.aload_n 2, 1) := by decide +kernel
theorem dL_law_243 : decode cL_law 243 = .ok (.aload_n 0, 1) := by decide +kernel
theorem dL_law_244 : decode cL_law 244 = .ok (.iload 4, 2) := by decide +kernel
theorem dL_law_246 : decode cL_law 246 = .ok (.iconst 1, 1) := by decide +kernel
theorem dL_law_247 : decode cL_law 247 = .ok (.iadd, 1) := by decide +kernel
theorem dL_law_248 : decode cL_law 248 = .ok (.iaload, 1) := by decide +kernel
theorem dL_law_249 : decode cL_law 249 = .ok (.invokevirtual 89, 3) := by decide +kernel
theorem dL_law_252 : decode cL_law 252 = .ok (.istore 6, 2) := by decide +kernel
theorem dL_law_254 : decode cL_law 254 = .ok (.aload_n 2, 1) := by decide +kernel
theorem dL_law_255 : decode cL_law 255 = .ok (.invokevirtual 90, 3) := by decide +kernel
theorem dL_law_258 : decode cL_law 258 = .ok (.iload 5, 2) := by decide +kernel
theorem dL_law_260 : decode cL_law 260 = .ok (.if_icmp .eq 5, 3) := by decide +kernel
theorem dL_law_263 : decode cL_law 263 = .ok (.iconst 0, 1) := by decide +kernel
theorem dL_law_264 : decode cL_law 264 = .ok (.ireturn, 1) := by decide +kernel
theorem dL_law_265 : decode cL_law 265 = .ok (.iload 5, 2) := by decide +kernel
theorem dL_law_267 : decode cL_law 267 = .ok (.ifCond .ne 15, 3) := by decide +kernel
theorem dL_law_270 : decode cL_law 270 = .ok (.aload_n 3, 1) := by decide +kernel
theorem dL_law_271 : decode cL_law 271 = .ok (.iconst 0, 1) := by decide +kernel
theorem dL_law_272 : decode cL_law 272 = .ok (.laload, 1) := by decide +kernel
theorem dL_law_273 : decode cL_law 273 = .ok (.iload 6, 2) := by decide +kernel
theorem dL_law_275 : decode cL_law 275 = .ok (.i2l, 1) := by decide +kernel
theorem dL_law_276 : decode cL_law 276 = .ok (.lcmp, 1) := by decide +kernel
theorem dL_law_277 : decode cL_law 277 = .ok (.ifCond .eq 5, 3) := by decide +kernel
theorem dL_law_280 : decode cL_law 280 = .ok (.iconst 0, 1) := by decide +kernel
theorem dL_law_281 : decode cL_law 281 = .ok (.ireturn, 1) := by decide +kernel
theorem dL_law_282 : decode cL_law 282 = .ok (.goto 1176, 3) := by decide +kernel
theorem dL_law_285 : decode cL_law 285 = .ok (.aload_n 1, 1) := by decide +kernel
theorem dL_law_286 : decode cL_law 286 = .ok (.invokevirtual 93, 3) := by decide +kernel
theorem dL_law_289 : decode cL_law 289 = .ok (.aload_n 2, 1) := by decide +kernel
theorem dL_law_290 : decode cL_law 290 = .ok (.invokevirtual 96, 3) := by decide +kernel
theorem dL_law_293 : decode cL_law 293 = .ok (.if_icmp .eq 1165, 3) := by decide +kernel
theorem dL_law_296 : decode cL_law 296 = .ok (.iconst 0, 1) := by decide +kernel
theorem dL_law_297 : decode cL_law 297 = .ok (.ireturn, 1) := by decide +kernel
theorem dL_law_298 : decode cL_law 298 = .ok (.aload_n 1, 1) := by decide +kernel
theorem dL_law_299 : decode cL_law 299 = .ok (.aload_n 0, 1) := by decide +kernel
theorem dL_law_300 : decode cL_law 300 = .ok (.iload 4, 2) := by decide +kernel
theorem dL_law_302 : decode cL_law 302 = .ok (.iconst 1, 1) := by decide +kernel
theorem dL_law_303 : decode cL_law 303 = .ok (.iadd, 1) := by decide +kernel
theorem dL_law_304 : decode cL_law 304 = .ok (.iaload, 1) := by decide +kernel
theorem dL_law_305 : decode cL_law 305 = .ok (.aload_n 0, 1) := by decide +kernel
theorem dL_law_306 : decode cL_law 306 = .ok (.iload 4, 2) := by decide +kernel
theorem dL_law_308 : decode cL_law 308 = .ok (.iconst 2, 1) := by decide +kernel
theorem dL_law_309 : decode cL_law 309 = .ok (.iadd, 1) := by decide +kernel
theorem dL_law_310 : decode cL_law 310 = .ok (.iaload, 1) := by decide +kernel
theorem dL_law_311 : decode cL_law 311 = .ok (.aload_n 0, 1) := by decide +kernel
theorem dL_law_312 : decode cL_law 312 = .ok (.iload 4, 2) := by decide +kernel
theorem dL_law_314 : decode cL_law 314 = .ok (.iconst 3, 1) := by decide +kernel
theorem dL_law_315 : decode cL_law 315 = .ok (.iadd, 1) := by decide +kernel
theorem dL_law_316 : decode cL_law 316 = .ok (.iaload, 1) := by decide +kernel
theorem dL_law_317 : decode cL_law 317 = .ok (.aload_n 0, 1) := by decide +kernel
theorem dL_law_318 : decode cL_law 318 = .ok (.iload 4, 2) := by decide +kernel
theorem dL_law_320 : decode cL_law 320 = .ok (.iconst 4, 1) := by decide +kernel
theorem dL_law_321 : decode cL_law 321 = .ok (.iadd, 1) := by decide +kernel
theorem dL_law_322 : decode cL_law 322 = .ok (.iaload, 1) := by decide +kernel
theorem dL_law_323 : decode cL_law 323 = .ok (.aload_n 0, 1) := by decide +kernel
theorem dL_law_324 : decode cL_law 324 = .ok (.iload 4, 2) := by decide +kernel
theorem dL_law_326 : decode cL_law 326 = .ok (.iconst 5, 1) := by decide +kernel
theorem dL_law_327 : decode cL_law 327 = .ok (.iadd, 1) := by decide +kernel
theorem dL_law_328 : decode cL_law 328 = .ok (.iaload, 1) := by decide +kernel
theorem dL_law_329 : decode cL_law 329 = .ok (.aload_n 3, 1) := by decide +kernel
theorem dL_law_330 : decode cL_law 330 = .ok (.invokestatic 97, 3) := by decide +kernel
theorem dL_law_333 : decode cL_law 333 = .ok (.istore 5, 2) := by decide +kernel
theorem dL_law_335 : decode cL_law 335 = .ok (.aload_n 2, 1) := by decide +kernel
theorem dL_law_336 : decode cL_law 336 = .ok (.aload_n 0, 1) := by decide +kernel
theorem dL_law_337 : decode cL_law 337 = .ok (.iload 4, 2) := by decide +kernel
theorem dL_law_339 : decode cL_law 339 = .ok (.iconst 1, 1) := by decide +kernel
theorem dL_law_340 : decode cL_law 340 = .ok (.iadd, 1) := by decide +kernel
theorem dL_law_341 : decode cL_law 341 = .ok (.iaload, 1) := by decide +kernel
theorem dL_law_342 : decode cL_law 342 = .ok (.aload_n 0, 1) := by decide +kernel
theorem dL_law_343 : decode cL_law 343 = .ok (.iload 4, 2) := by decide +kernel
theorem dL_law_345 : decode cL_law 345 = .ok (.iconst 2, 1) := by decide +kernel
theorem dL_law_346 : decode cL_law 346 = .ok (.iadd, 1) := by decide +kernel
theorem dL_law_347 : decode cL_law 347 = .ok (.iaload, 1) := by decide +kernel
theorem dL_law_348 : decode cL_law 348 = .ok (.aload_n 0, 1) := by decide +kernel
theorem dL_law_349 : decode cL_law 349 = .ok (.iload 4, 2) := by decide +kernel
theorem dL_law_351 : decode cL_law 351 = .ok (.iconst 3, 1) := by decide +kernel
theorem dL_law_352 : decode cL_law 352 = .ok (.iadd, 1) := by decide +kernel
theorem dL_law_353 : decode cL_law 353 = .ok (.iaload, 1) := by decide +kernel
theorem dL_law_354 : decode cL_law 354 = .ok (.aload_n 0, 1) := by decide +kernel
theorem dL_law_355 : decode cL_law 355 = .ok (.iload 4, 2) := by decide +kernel
theorem dL_law_357 : decode cL_law 357 = .ok (.iconst 4, 1) := by decide +kernel
theorem dL_law_358 : decode cL_law 358 = .ok (.iadd, 1) := by decide +kernel
theorem dL_law_359 : decode cL_law 359 = .ok (.iaload, 1) := by decide +kernel
theorem dL_law_360 : decode cL_law 360 = .ok (.aload_n 0, 1) := by decide +kernel
theorem dL_law_361 : decode cL_law 361 = .ok (.iload 4, 2) := by decide +kernel
theorem dL_law_363 : decode cL_law 363 = .ok (.iconst 5, 1) := by decide +kernel
theorem dL_law_364 : decode cL_law 364 = .ok (.iadd, 1) := by decide +kernel
theorem dL_law_365 : decode cL_law 365 = .ok (.iaload, 1) := by decide +kernel
theorem dL_law_366 : decode cL_law 366 = .ok (.invokevirtual 100, 3) := by decide +kernel
theorem dL_law_369 : decode cL_law 369 = .ok (.istore 6, 2) := by decide +kernel
theorem dL_law_371 : decode cL_law 371 = .ok (.aload_n 2, 1) := by decide +kernel
theorem dL_law_372 : decode cL_law 372 = .ok (.invokevirtual 90, 3) := by decide +kernel
theorem dL_law_375 : decode cL_law 375 = .ok (.iload 5, 2) := by decide +kernel
theorem dL_law_377 : decode cL_law 377 = .ok (.if_icmp .eq 5, 3) := by decide +kernel
theorem dL_law_380 : decode cL_law 380 = .ok (.iconst 0, 1) := by decide +kernel
theorem dL_law_381 : decode cL_law 381 = .ok (.ireturn, 1) := by decide +kernel
theorem dL_law_382 : decode cL_law 382 = .ok (.iload 5, 2) := by decide +kernel
theorem dL_law_384 : decode cL_law 384 = .ok (.ifCond .ne 15, 3) := by decide +kernel
theorem dL_law_387 : decode cL_law 387 = .ok (.aload_n 3, 1) := by decide +kernel
theorem dL_law_388 : decode cL_law 388 = .ok (.iconst 0, 1) := by decide +kernel
theorem dL_law_389 : decode cL_law 389 = .ok (.laload, 1) := by decide +kernel
theorem dL_law_390 : decode cL_law 390 = .ok (.iload 6, 2) := by decide +kernel
theorem dL_law_392 : decode cL_law 392 = .ok (.i2l, 1) := by decide +kernel
theorem dL_law_393 : decode cL_law 393 = .ok (.lcmp, 1) := by decide +kernel
theorem dL_law_394 : decode cL_law 394 = .ok (.ifCond .eq 5, 3) := by decide +kernel
theorem dL_law_397 : decode cL_law 397 = .ok (.iconst 0, 1) := by decide +kernel
theorem dL_law_398 : decode cL_law 398 = .ok (.ireturn, 1) := by decide +kernel
theorem dL_law_399 : decode cL_law 399 = .ok (.goto 1059, 3) := by decide +kernel
theorem dL_law_402 : decode cL_law 402 = .ok (.aload_n 1, 1) := by decide +kernel
theorem dL_law_403 : decode cL_law 403 = .ok (.aload_n 0, 1) := by decide +kernel
theorem dL_law_404 : decode cL_law 404 = .ok (.iload 4, 2) := by decide +kernel
theorem dL_law_406 : decode cL_law 406 = .ok (.iconst 1, 1) := by decide +kernel
theorem dL_law_407 : decode cL_law 407 = .ok (.iadd, 1) := by decide +kernel
theorem dL_law_408 : decode cL_law 408 = .ok (.iaload, 1) := by decide +kernel
theorem dL_law_409 : decode cL_law 409 = .ok (.aload_n 0, 1) := by decide +kernel
theorem dL_law_410 : decode cL_law 410 = .ok (.iload 4, 2) := by decide +kernel
theorem dL_law_412 : decode cL_law 412 = .ok (.iconst 2, 1) := by decide +kernel
theorem dL_law_413 : decode cL_law 413 = .ok (.iadd, 1) := by decide +kernel
theorem dL_law_414 : decode cL_law 414 = .ok (.iaload, 1) := by decide +kernel
theorem dL_law_415 : decode cL_law 415 = .ok (.aload_n 3, 1) := by decide +kernel
theorem dL_law_416 : decode cL_law 416 = .ok (.invokestatic 101, 3) := by decide +kernel
theorem dL_law_419 : decode cL_law 419 = .ok (.istore 5, 2) := by decide +kernel
theorem dL_law_421 : decode cL_law 421 = .ok (.aload_n 2, 1) := by decide +kernel
theorem dL_law_422 : decode cL_law 422 = .ok (.aload_n 0, 1) := by decide +kernel
theorem dL_law_423 : decode cL_law 423 = .ok (.iload 4, 2) := by decide +kernel
theorem dL_law_425 : decode cL_law 425 = .ok (.iconst 1, 1) := by decide +kernel
theorem dL_law_426 : decode cL_law 426 = .ok (.iadd, 1) := by decide +kernel
theorem dL_law_427 : decode cL_law 427 = .ok (.iaload, 1) := by decide +kernel
theorem dL_law_428 : decode cL_law 428 = .ok (.aload_n 0, 1) := by decide +kernel
theorem dL_law_429 : decode cL_law 429 = .ok (.iload 4, 2) := by decide +kernel
theorem dL_law_431 : decode cL_law 431 = .ok (.iconst 2, 1) := by decide +kernel
theorem dL_law_432 : decode cL_law 432 = .ok (.iadd, 1) := by decide +kernel
theorem dL_law_433 : decode cL_law 433 = .ok (.iaload, 1) := by decide +kernel
theorem dL_law_434 : decode cL_law 434 = .ok (.invokevirtual 104, 3) := by decide +kernel
theorem dL_law_437 : decode cL_law 437 = .ok (.istore 6, 2) := by decide +kernel
theorem dL_law_439 : decode cL_law 439 = .ok (.aload_n 2, 1) := by decide +kernel
theorem dL_law_440 : decode cL_law 440 = .ok (.invokevirtual 90, 3) := by decide +kernel
theorem dL_law_443 : decode cL_law 443 = .ok (.iload 5, 2) := by decide +kernel
theorem dL_law_445 : decode cL_law 445 = .ok (.if_icmp .eq 5, 3) := by decide +kernel
theorem dL_law_448 : decode cL_law 448 = .ok (.iconst 0, 1) := by decide +kernel
theorem dL_law_449 : decode cL_law 449 = .ok (.ireturn, 1) := by decide +kernel
theorem dL_law_450 : decode cL_law 450 = .ok (.iload 5, 2) := by decide +kernel
theorem dL_law_452 : decode cL_law 452 = .ok (.ifCond .ne 15, 3) := by decide +kernel
theorem dL_law_455 : decode cL_law 455 = .ok (.aload_n 3, 1) := by decide +kernel
theorem dL_law_456 : decode cL_law 456 = .ok (.iconst 0, 1) := by decide +kernel
theorem dL_law_457 : decode cL_law 457 = .ok (.laload, 1) := by decide +kernel
theorem dL_law_458 : decode cL_law 458 = .ok (.iload 6, 2) := by decide +kernel
theorem dL_law_460 : decode cL_law 460 = .ok (.i2l, 1) := by decide +kernel
theorem dL_law_461 : decode cL_law 461 = .ok (.lcmp, 1) := by decide +kernel
theorem dL_law_462 : decode cL_law 462 = .ok (.ifCond .eq 5, 3) := by decide +kernel
theorem dL_law_465 : decode cL_law 465 = .ok (.iconst 0, 1) := by decide +kernel
theorem dL_law_466 : decode cL_law 466 = .ok (.ireturn, 1) := by decide +kernel
theorem dL_law_467 : decode cL_law 467 = .ok (.goto 991, 3) := by decide +kernel
theorem dL_law_470 : decode cL_law 470 = .ok (.aload_n 1, 1) := by decide +kernel
theorem dL_law_471 : decode cL_law 471 = .ok (.aload_n 0, 1) := by decide +kernel
theorem dL_law_472 : decode cL_law 472 = .ok (.iload 4, 2) := by decide +kernel
theorem dL_law_474 : decode cL_law 474 = .ok (.iconst 1, 1) := by decide +kernel
theorem dL_law_475 : decode cL_law 475 = .ok (.iadd, 1) := by decide +kernel
theorem dL_law_476 : decode cL_law 476 = .ok (.iaload, 1) := by decide +kernel
theorem dL_law_477 : decode cL_law 477 = .ok (.aload_n 3, 1) := by decide +kernel
theorem dL_law_478 : decode cL_law 478 = .ok (.invokestatic 105, 3) := by decide +kernel
theorem dL_law_481 : decode cL_law 481 = .ok (.istore 5, 2) := by decide +kernel
theorem dL_law_483 : decode cL_law 483 = .ok (.aload_n 2, 1) := by decide +kernel
theorem dL_law_484 : decode cL_law 484 = .ok (.aload_n 0, 1) := by decide +kernel
theorem dL_law_485 : decode cL_law 485 = .ok (.iload 4, 2) := by decide +kernel
theorem dL_law_487 : decode cL_law 487 = .ok (.iconst 1, 1) := by decide +kernel
theorem dL_law_488 : decode cL_law 488 = .ok (.iadd, 1) := by decide +kernel
theorem dL_law_489 : decode cL_law 489 = .ok (.iaload, 1) := by decide +kernel
theorem dL_law_490 : decode cL_law 490 = .ok (.invokevirtual 107, 3) := by decide +kernel
theorem dL_law_493 : decode cL_law 493 = .ok (.istore 6, 2) := by decide +kernel
theorem dL_law_495 : decode cL_law 495 = .ok (.aload_n 2, 1) := by decide +kernel
theorem dL_law_496 : decode cL_law 496 = .ok (.invokevirtual 90, 3) := by decide +kernel
theorem dL_law_499 : decode cL_law 499 = .ok (.iload 5, 2) := by decide +kernel
theorem dL_law_501 : decode cL_law 501 = .ok (.if_icmp .eq 5, 3) := by decide +kernel
theorem dL_law_504 : decode cL_law 504 = .ok (.iconst 0, 1) := by decide +kernel
theorem dL_law_505 : decode cL_law 505 = .ok (.ireturn, 1) := by decide +kernel
theorem dL_law_506 : decode cL_law 506 = .ok (.iload 5, 2) := by decide +kernel
theorem dL_law_508 : decode cL_law 508 = .ok (.ifCond .ne 15, 3) := by decide +kernel
theorem dL_law_511 : decode cL_law 511 = .ok (.aload_n 3, 1) := by decide +kernel
theorem dL_law_512 : decode cL_law 512 = .ok (.iconst 0, 1) := by decide +kernel
